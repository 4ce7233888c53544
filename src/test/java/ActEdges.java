/** Terms, part 2: LOAF, GETS, FED and the ACTS; promises 6 to 14. */
final class ActEdges {
    private static final int LOW = Sight.LOW;
    private static final int HIGH = Sight.HIGH;
    private static final int[] NO_SOUL = {LOW, -33, -2, -1, 3, 4, 5, 31, 32, 33, HIGH};
    private static final int[] NO_DEED = {LOW, -32, -31, -1, 2, 3, 4, 5, 31, 32, 33, HIGH};
    private static final String FULL = "deed a;deed b;deed c;deed d;deed e;soul a needs 1;soul b needs 2;soul c needs 3;"
            + "soul d needs 4;soul e needs 5;loaf 9+a+b*2+c*4+d*8+e*16;";

    private ActEdges() {
    }

    static void addTo(Edges edges) {
        edges.terms(2, "what comes of loaf (10, if it is not told)", ActEdges::loafNotTold);
        edges.terms(2, "(a NAME: 1 if that DEED was done this week, else 0)", ActEdges::deedOrNone);
        edges.terms(2, "stay (weeks stayed), old (the last LOAF, 0 at first)", ActEdges::oldAtFirst);
        edges.terms(2, "said (how many SOULS say a NAME now; ints, wrapping", ActEdges::saidAndWrapping);
        edges.terms(2, "/ cut, % its rest, both by 0: 0", ActEdges::division);
        edges.terms(2, "relations, and, or, not are 1 or 0, of what is not 0)", ActEdges::truth);
        edges.terms(2, "0 at least, 99 at most.", ActEdges::leastAndMostLoaf);
        edges.terms(2, "or none (none at first)", ActEdges::noneAtFirst);
        edges.terms(2, "The BATCH is STONE, if two who say a NAME have a FEUD.", ActEdges::stone);
        edges.terms(2, "by how many say that NAME (cut)", ActEdges::getsCut);
        edges.terms(2, "0 if it is STONE, or he says none.", ActEdges::getsNothing);
        edges.terms(2, "He is FED, if that is what he needs at least.", ActEdges::fedByJustEnough);
        edges.terms(2, "a SOUL says a NAME (in place of what he said), or none", ActEdges::inPlace);
        edges.terms(2, "all who are FED then are so once more, all who said another one's NAME are SHAMED once more",
                ActEdges::onceMore);
        edges.terms(2, "stay is more by one (99 at most)", ActEdges::stayAtMost);
        edges.terms(2, "no DEEDS are done, none says a NAME", ActEdges::weekBeginsEmpty);
        edges.terms(2, "the SEED (draw, at first) becomes its 137-fold and 71 more, modulo 1,000, the heat is its rest by 10",
                ActEdges::seed);
        edges.terms(2, "the week (0 at first) goes up by 1", ActEdges::week);
        edges.terms(2, "UNDO takes back the latest ACT that was not", ActEdges::undoTheLatest);
        edges.terms(2, "REDO does that again which was taken back last (till another ACT)", ActEdges::redoTillAnother);
        edges.terms(2, "40 at most are kept, the oldest go", ActEdges::fortyKept);

        edges.promise(6, "2: whose NAME he says (NONE)", ActEdges::whoseNone);
        edges.promise(6, "9: with whom he has a FEUD, as bits", ActEdges::feudBits);
        edges.promise(6, "-2 if there is none such, or for another what.", ActEdges::soulRefused);
        edges.promise(7, "DEEDS then, as bits", ActEdges::doesBits);
        edges.promise(7, "NONE, doing nothing, if one can't be.", ActEdges::doesRefused);
        edges.promise(8, "A SOUL says a NAME (NONE: none): how many say it then (0 for none)", ActEdges::saysHowMany);
        edges.promise(8, "NONE, doing nothing, if one can't be.", ActEdges::saysRefused);
        edges.promise(9, "1 if there is one then, else 0", ActEdges::feudOneOrNone);
        edges.promise(9, "NONE, doing nothing, if one can't be (the same one twice, too).", ActEdges::feudRefused);
        edges.promise(10, "BREAD: who is FED, as bits", ActEdges::breadBits);
        edges.promise(10, "NONE, doing nothing, behind 999 of them.", ActEdges::breadRefused);
        edges.promise(11, "UNDO: true; false if there is none.", ActEdges::undoRefused);
        edges.promise(12, "REDO: true; false if there is none.", ActEdges::redoRefused);
        edges.promise(13, "Whether the BATCH is STONE.", ActEdges::stoneOnlyLooks);
        edges.promise(14, "Who would be FED now, as bits.", ActEdges::fedBits);
    }

    private static void loafNotTold(Due due) {
        OvenNames x = Due.village("deed a;soul s needs 1 stays 50;heat 9;");
        x.does(0, 0);
        x.says(0, 0);
        due.is("LOAF", x.soul(0, 5), 10);
        due.is("units", x.about(12), 0);
        due.is("LOAF, told as 0", Due.village("soul s needs 1;loaf 0;").soul(0, 5), 0);
        OvenNames y = Due.village("soul s needs 1;loaf 3;");
        Due.put(y, "soul s needs 1;");
        due.is("told anew", y.village(), 1);
        due.is("LOAF, not told any more", y.soul(0, 5), 10);
    }

    private static void deedOrNone(Due due) {
        OvenNames x = Due.village("deed a;soul s needs 1;soul t needs 1;loaf a;");
        due.is("not done", x.soul(0, 5), 0);
        x.does(0, 0);
        due.is("done", x.soul(0, 5), 1);
        due.is("done by another one", x.soul(1, 5), 0);
        x.does(0, 0);
        due.is("not any more", x.soul(0, 5), 0);
        x.does(0, 0);
        x.bread();
        due.is("done last week", x.soul(0, 5), 0);
    }

    private static void oldAtFirst(Due due) {
        OvenNames x = Due.village("soul s needs 1 stays 6;loaf old+stay;");
        due.is("old at first", x.soul(0, 4), 0);
        due.is("LOAF at first", x.soul(0, 5), 6);
        x.bread();
        due.is("old", x.soul(0, 4), 6);
        due.is("LOAF", x.soul(0, 5), 13);
    }

    private static int loaf(String e) {
        return Due.village("soul s needs 1;loaf " + e + ";").soul(0, 5);
    }

    private static void saidAndWrapping(Due due) {
        OvenNames x = Due.village("soul a needs 1;soul b needs 1;soul c needs 1;soul d needs 1;soul e needs 1;loaf said;");
        for (int soul = 0; soul < 5; soul++) {
            due.is("said", x.soul(0, 5), soul);
            x.says(soul, soul % 2 * 4);
        }
        due.is("said by all", x.soul(0, 5), 5);
        x.says(4, -1);
        due.is("said by one less", x.soul(0, 5), 4);
        // 2 to the 31st is below 0, one less is above it again
        String low = "4096*4096*128";
        due.is("wraps to below 0", loaf(low + "<0"), 1);
        due.is("wraps to below 0, so it is 0", loaf(low), 0);
        due.is("wraps back", loaf(low + "-1"), 99);
        due.is("wraps back above 0", loaf(low + "-1>0"), 1);
        due.is("wraps by adding", loaf("(" + low + "-1+1)<0"), 1);
        due.is("2 to the 32nd is 0", loaf("4096*4096*256=0"), 1);
        due.is("not above", loaf("4096*4096*64>0"), 1);
        due.is("the product of three", loaf("(1000+9999*9999*9999%1000)/100"), (1000 + 9999 * 9999 * 9999 % 1000) / 100);
        due.is("the least, less itself", loaf("(0-" + low + ")<0"), 1);
    }

    private static void division(Due due) {
        due.is("7/2", loaf("7/2"), 3);
        due.is("-7/2 is cut to -3", loaf("10+(0-7)/2"), 7);
        due.is("7/-2 is cut to -3", loaf("10+7/(0-2)"), 7);
        due.is("-7%2 is -1", loaf("10+(0-7)%2"), 9);
        due.is("7%-2 is 1", loaf("10+7%(0-2)"), 11);
        due.is("7/7", loaf("7/7"), 1);
        due.is("6/7", loaf("6/7"), 0);
        due.is("7/0", loaf("7/0"), 0);
        due.is("0/0", loaf("0/0"), 0);
        due.is("7%0", loaf("7%0"), 0);
        due.is("0%0", loaf("0%0"), 0);
        due.is("5+7/0", loaf("5+7/0"), 5);
        due.is("5+7%0", loaf("5+7%0"), 5);
        due.is("(0-7)/0=0", loaf("(0-7)/0=0"), 1);
        due.is("(0-7)%0=0", loaf("(0-7)%0=0"), 1);
        due.is("by what comes to 0", loaf("7/(heat-0)+4"), 4);
        due.is("the least by -1 wraps", loaf("4096*4096*128/(0-1)<0"), 1);
        due.is("the least % -1", loaf("4096*4096*128%(0-1)+4"), 4);
        due.is("1/1", loaf("1/1"), 1);
        due.is("5%1", loaf("5%1"), 0);
    }

    private static void truth(Due due) {
        String[] ends = {"0", "1", "(0-1)", "2", "4096*4096*128"};
        for (int i = 0; i < ends.length; i++) {
            due.is("not " + ends[i], loaf("not " + ends[i]), i == 0 ? 1 : 0);
            due.is("not not " + ends[i], loaf("not not " + ends[i]), i == 0 ? 0 : 1);
            for (int j = 0; j < ends.length; j++) {
                due.is(ends[i] + " and " + ends[j], loaf(ends[i] + " and " + ends[j]), i == 0 || j == 0 ? 0 : 1);
                due.is(ends[i] + " or " + ends[j], loaf(ends[i] + " or " + ends[j]), i == 0 && j == 0 ? 0 : 1);
            }
        }
        due.is("3<4", loaf("3<4"), 1);
        due.is("4<4", loaf("4<4"), 0);
        due.is("5<4", loaf("5<4"), 0);
        due.is("3>4", loaf("3>4"), 0);
        due.is("4>4", loaf("4>4"), 0);
        due.is("5>4", loaf("5>4"), 1);
        due.is("3=4", loaf("3=4"), 0);
        due.is("4=4", loaf("4=4"), 1);
        due.is("5=4", loaf("5=4"), 0);
        due.is("below 0", loaf("(0-2)<(0-1)"), 1);
        due.is("far apart", loaf("4096*4096*128<(0-1)"), 1);
        due.is("far apart, the other way", loaf("4096*4096*128-1>4096*4096*128"), 1);
    }

    private static void leastAndMostLoaf(Due due) {
        int[] values = {-9999, -2, -1, 0, 1, 2, 97, 98, 99, 100, 101, 9999};
        int[] want = {0, 0, 0, 0, 1, 2, 97, 98, 99, 99, 99, 99};
        for (int i = 0; i < values.length; i++) {
            String e = values[i] < 0 ? "0-" + -values[i] : "" + values[i];
            OvenNames x = Due.village("soul s needs 1;loaf " + e + ";");
            due.is("LOAF of " + e, x.soul(0, 5), want[i]);
            x.bread();
            due.is("old of " + e, x.soul(0, 4), want[i]);
        }
        // within the formula nothing is cut
        due.is("150-60", loaf("150-60"), 90);
        due.is("0-60+70", loaf("0-60+70"), 10);
    }

    private static void noneAtFirst(Due due) {
        OvenNames x = Due.village(FULL);
        for (int soul = 0; soul < 5; soul++) {
            due.is("says", x.soul(soul, 2), -1);
            due.is("GETS", x.soul(soul, 6), 0);
        }
        due.is("how many say", x.about(6), 0);
    }

    private static void stone(Due due) {
        OvenNames x = Due.village("soul a needs 1;soul b needs 1;soul c needs 1;feud a with c;");
        due.no("none says", x.stone());
        x.says(0, 2);
        due.no("one says the NAME of his foe", x.stone());
        x.says(1, 2);
        due.no("two without FEUD, of one NAME", x.stone());
        x.says(2, 1);
        due.yes("two in FEUD, of unlike NAMES", x.stone());
        x.says(1, -1);
        due.yes("only these two", x.stone());
        x.says(2, -1);
        due.no("one of them says none", x.stone());
        x.feud(0, 2);
        x.says(2, 2);
        due.no("the FEUD ended", x.stone());
        x.feud(2, 0);
        due.yes("it began again", x.stone());
    }

    private static void getsCut(Due due) {
        int[] want = {99, 49, 33, 24, 19};
        OvenNames x = Due.village("soul a needs 1;soul b needs 1;soul c needs 1;soul d needs 1;soul e needs 1;loaf 99;");
        for (int soul = 0; soul < 5; soul++) {
            x.says(soul, 3);
            due.is("GETS", x.soul(0, 6), want[soul]);
            due.is("GETS", x.soul(soul, 6), want[soul]);
        }
        OvenNames y = Due.village("soul a needs 1;soul b needs 1;loaf 1;");
        y.says(0, 0);
        due.is("1 by 1", y.soul(0, 6), 1);
        y.says(1, 0);
        due.is("1 by 2", y.soul(0, 6), 0);
        y.says(1, 1);
        due.is("another NAME", y.soul(0, 6), 1);
    }

    private static void getsNothing(Due due) {
        OvenNames x = Due.village("soul a needs 0;soul b needs 1;soul c needs 1;feud a with b;loaf 8;");
        x.says(0, 0);
        x.says(2, 1);
        due.is("he says none", x.soul(1, 6), 0);
        due.is("another one says his NAME", x.soul(2, 6), 8);
        x.says(1, 2);
        for (int soul = 0; soul < 3; soul++) {
            due.is("STONE", x.soul(soul, 6), 0);
        }
        due.is("the LOAF is what it was", x.soul(0, 5), 8);
    }

    private static void fedByJustEnough(Due due) {
        OvenNames x = Due.village("soul a needs 7;soul b needs 8;soul c needs 9;soul d needs 0;soul e needs 99;loaf 8;");
        due.is("none says a NAME", x.fed(), 8);
        for (int soul = 0; soul < 5; soul++) {
            x.says(soul, soul);
        }
        due.is("who needs as much, or less", x.fed(), 1 | 2 | 8);
        OvenNames y = Due.village("soul a needs 99;soul b needs 99;loaf 99-stay;");
        y.says(0, 0);
        due.is("needs 99", y.fed(), 1);
        y.bread();
        y.says(0, 0);
        due.is("98 is less", y.fed(), 0);
        OvenNames z = Due.village("soul a needs 0;soul b needs 1;feud a with b;");
        z.says(0, 0);
        z.says(1, 1);
        due.is("who needs nothing is FED by STONE", z.fed(), 1);
    }

    private static void inPlace(Due due) {
        OvenNames x = Due.village(FULL);
        x.says(0, 1);
        x.says(0, 2);
        due.is("says", x.soul(0, 2), 2);
        due.is("the NAME he said", x.claims(1), 0);
        due.is("the NAME he says", x.claims(2), 1);
        due.is("how many say a NAME", x.about(6), 1);
        x.says(0, -1);
        due.is("says", x.soul(0, 2), -1);
        due.is("how many say a NAME", x.about(6), 0);
    }

    private static void onceMore(Due due) {
        OvenNames x = Due.village("soul a needs 5;soul b needs 6;soul c needs 0;loaf 5;");
        for (int week = 1; week <= 3; week++) {
            x.says(0, 1);
            x.says(1, 1);
            x.says(2, 1);
            x.says(1, -1);
            x.says(0, 0);
            due.is("bread", x.bread(), 5);
            due.is("FED", x.soul(0, 7), week);
            due.is("FED", x.soul(1, 7), 0);
            due.is("FED", x.soul(2, 7), week);
            due.is("his own NAME is no shame", x.soul(0, 8), 0);
            due.is("who said none at last", x.soul(1, 8), 0);
            due.is("another one's", x.soul(2, 8), week);
        }
        x.bread();
        due.is("none says a NAME", x.soul(2, 8), 3);
        due.is("FED of nothing", x.soul(2, 7), 4);
        due.is("not FED", x.soul(0, 7), 3);
    }

    private static void stayAtMost(Due due) {
        OvenNames x = Due.village("soul a needs 1 stays 97;soul b needs 1 stays 99;soul c needs 1;loaf stay;");
        int[] want = {98, 99, 99, 99};
        for (int week = 0; week < want.length; week++) {
            x.bread();
            due.is("stay", x.soul(0, 3), want[week]);
            due.is("stay of 99", x.soul(1, 3), 99);
            due.is("stay of 0", x.soul(2, 3), week + 1);
        }
        for (int week = 0; week < 100; week++) {
            x.bread();
        }
        due.is("stay", x.soul(2, 3), 99);
        x.undo();
        due.is("stay, a BREAD before", x.soul(2, 3), 99);
    }

    private static void weekBeginsEmpty(Due due) {
        OvenNames x = Due.village(FULL);
        for (int soul = 0; soul < 5; soul++) {
            for (int deed = 0; deed < 5; deed++) {
                x.does(soul, deed);
            }
            x.says(soul, 4 - soul);
        }
        x.bread();
        for (int soul = 0; soul < 5; soul++) {
            due.is("DEEDS", x.soul(soul, 1), 0);
            due.is("says", x.soul(soul, 2), -1);
            due.is("old", x.soul(soul, 4), 40);
        }
        due.is("how many say a NAME", x.about(6), 0);
    }

    private static void seed(Due due) {
        int[] draws = {0, 1, 7, 500, 998, 999};
        int[] next = {71, 208, 30, 571, 797, 934};
        for (int i = 0; i < draws.length; i++) {
            OvenNames x = Due.village("heat 5;draw " + draws[i] + ";");
            due.is("SEED at first", x.about(4), draws[i]);
            due.is("heat at first", x.about(3), 5);
            x.bread();
            due.is("SEED", x.about(4), next[i]);
            due.is("heat", x.about(3), next[i] % 10);
        }
        OvenNames y = new OvenNames();
        int seed = 0;
        for (int week = 0; week < 200; week++) {
            y.bread();
            seed = (seed * 137 + 71) % 1000;
            due.is("SEED", y.about(4), seed);
            due.is("heat", y.about(3), seed % 10);
        }
    }

    private static void week(Due due) {
        OvenNames x = Due.village(FULL);
        due.is("at first", x.about(5), 0);
        x.does(0, 0);
        x.says(0, 0);
        x.feud(0, 1);
        due.is("behind other ACTS", x.about(5), 0);
        for (int week = 1; week <= 3; week++) {
            x.bread();
            due.is("week", x.about(5), week);
        }
    }

    private static void undoTheLatest(Due due) {
        OvenNames x = Due.village(FULL);
        x.does(0, 0);
        x.does(0, 1);
        x.does(0, 2);
        due.yes("undo", x.undo());
        due.is("the third is taken back", x.soul(0, 1), 3);
        due.yes("undo", x.undo());
        due.is("the second is taken back", x.soul(0, 1), 1);
        x.does(0, 4);
        due.yes("undo", x.undo());
        due.is("the new one is taken back", x.soul(0, 1), 1);
        due.yes("undo", x.undo());
        due.is("then the first", x.soul(0, 1), 0);
        due.no("no more", x.undo());
    }

    private static void redoTillAnother(Due due) {
        OvenNames x = Due.village(FULL);
        x.does(0, 0);
        x.does(0, 1);
        x.does(0, 2);
        x.undo();
        x.undo();
        due.yes("redo", x.redo());
        due.is("the second, taken back last", x.soul(0, 1), 3);
        due.is("another can be", x.about(8), 1);
        due.is("so many can be taken back", x.about(7), 2);
        // looking, keeping, reporting, a text with a FAULT are no ACTS
        x.richest();
        x.image(0);
        x.report(0, 0, 0, 1);
        x.later(1);
        Due.put(x, "$");
        x.village();
        x.does(5, 0);
        due.yes("redo", x.redo());
        due.is("the third", x.soul(0, 1), 7);
        due.no("no more", x.redo());
        for (int act = 0; act < 4; act++) {
            x.undo();
            due.is("can be done again", x.about(8), 1);
            doAct(x, act);
            due.is("another ACT", x.about(8), 0);
            due.no("redo", x.redo());
        }
    }

    private static void doAct(OvenNames x, int act) {
        switch (act) {
            case 0: x.does(1, 1); break;
            case 1: x.says(1, -1); break;
            case 2: x.feud(1, 2); break;
            default: x.bread();
        }
    }

    private static void fortyKept(Due due) {
        for (int acts : new int[] {39, 40, 41, 42, 81, 82, 83, 130}) {
            OvenNames x = Due.village("soul s needs 1;");
            for (int i = 0; i < acts; i++) {
                x.bread();
            }
            int kept = Math.min(40, acts);
            due.is("ACTS that can be undone of " + acts, x.about(7), kept);
            for (int i = 1; i <= kept; i++) {
                due.yes("undo", x.undo());
                due.is("week", x.about(5), acts - i);
            }
            due.no("the oldest are gone", x.undo());
            due.is("week", x.about(5), acts - kept);
            due.is("ACTS that can be done again", x.about(8), kept);
            for (int i = 1; i <= kept; i++) {
                due.yes("redo", x.redo());
            }
            due.no("no more", x.redo());
            due.is("week", x.about(5), acts);
        }
        // those taken back make room for none till another ACT
        OvenNames y = Due.village("soul s needs 1;");
        for (int i = 0; i < 45; i++) {
            y.bread();
        }
        for (int i = 0; i < 40; i++) {
            y.undo();
        }
        due.is("week", y.about(5), 5);
        y.says(0, 0);
        due.is("ACTS that can be undone", y.about(7), 1);
        due.is("ACTS that can be done again", y.about(8), 0);
        for (int i = 0; i < 39; i++) {
            y.bread();
        }
        due.is("ACTS that can be undone", y.about(7), 40);
        y.bread();
        due.is("ACTS that can be undone", y.about(7), 40);
        for (int i = 0; i < 40; i++) {
            due.yes("undo", y.undo());
        }
        due.is("the oldest is gone: he says it still", y.soul(0, 2), 0);
        due.no("no more", y.undo());
    }

    private static void whoseNone(Due due) {
        OvenNames x = Due.village(FULL);
        due.is("at first", x.soul(4, 2), -1);
        x.says(4, 0);
        due.is("the first one's", x.soul(4, 2), 0);
        x.says(4, 4);
        due.is("the last one's", x.soul(4, 2), 4);
        x.says(4, -1);
        due.is("none", x.soul(4, 2), -1);
    }

    private static void feudBits(Due due) {
        OvenNames x = Due.village(FULL);
        due.is("with none", x.soul(4, 9), 0);
        for (int other = 0; other < 4; other++) {
            x.feud(4, other);
            due.is("one side", x.soul(4, 9), (2 << other) - 1);
            due.is("the other side", x.soul(other, 9), 16);
        }
    }

    private static void soulRefused(Due due) {
        for (int soul : NO_SOUL) {
            for (int what = -1; what <= 10; what++) {
                due.is("soul(" + soul + ", " + what + ")", Sight.rich().soul(soul, what), -2);
            }
        }
        for (int what : new int[] {LOW, -2, -1, 10, 11, HIGH}) {
            for (int soul = 0; soul < 3; soul++) {
                due.is("soul(" + soul + ", " + what + ")", Sight.rich().soul(soul, what), -2);
            }
        }
        OvenNames x = Due.village(FULL);
        for (int what = 0; what < 10; what++) {
            due.yes("soul(4, " + what + ") is there", x.soul(4, what) != -2);
            due.is("soul(5, " + what + ")", x.soul(5, what), -2);
        }
        Sight.refuses(due, "soul(3, 0)", each -> each.soul(3, 0), -2);
        Sight.refuses(due, "soul(0, 10)", each -> each.soul(0, 10), -2);
    }

    private static void doesBits(Due due) {
        OvenNames x = Due.village(FULL);
        for (int deed = 0; deed < 5; deed++) {
            due.is("done", x.does(4, deed), (2 << deed) - 1);
        }
        for (int deed = 0; deed < 5; deed++) {
            due.is("not any more", x.does(4, deed), 31 & ~((2 << deed) - 1));
        }
        due.is("of the first one", x.does(0, 4), 16);
        due.is("ACTS", x.about(7), 11);
    }

    private static void doesRefused(Due due) {
        for (int soul : NO_SOUL) {
            Sight.refuses(due, "does(" + soul + ", 0)", x -> x.does(soul, 0), -1);
            Sight.refuses(due, "does(" + soul + ", 1)", x -> x.does(soul, 1), -1);
        }
        for (int deed : NO_DEED) {
            Sight.refuses(due, "does(0, " + deed + ")", x -> x.does(0, deed), -1);
            Sight.refuses(due, "does(2, " + deed + ")", x -> x.does(2, deed), -1);
        }
        OvenNames full = Due.village(FULL);
        due.is("SOUL 5", full.does(5, 0), -1);
        due.is("DEED 5", full.does(0, 5), -1);
        due.is("no DEED", Due.village("soul s needs 1;").does(0, 0), -1);
        due.is("no SOUL", Due.village("deed a;").does(0, 0), -1);
    }

    private static void saysHowMany(Due due) {
        OvenNames x = Due.village(FULL);
        for (int soul = 0; soul < 5; soul++) {
            due.is("says", x.says(soul, 4), soul + 1);
        }
        due.is("says it already", x.says(0, 4), 5);
        due.is("none", x.says(0, -1), 0);
        due.is("none already", x.says(0, -1), 0);
        due.is("another one", x.says(1, 0), 1);
        due.is("his own", x.says(0, 0), 2);
        due.is("ACTS", x.about(7), 10);
    }

    private static void saysRefused(Due due) {
        for (int soul : NO_SOUL) {
            Sight.refuses(due, "says(" + soul + ", 0)", x -> x.says(soul, 0), -1);
            Sight.refuses(due, "says(" + soul + ", -1)", x -> x.says(soul, -1), -1);
        }
        for (int whose : new int[] {LOW, -33, -3, -2, 3, 4, 5, 31, 32, HIGH}) {
            Sight.refuses(due, "says(0, " + whose + ")", x -> x.says(0, whose), -1);
            Sight.refuses(due, "says(2, " + whose + ")", x -> x.says(2, whose), -1);
        }
        OvenNames full = Due.village(FULL);
        due.is("SOUL 5", full.says(5, 0), -1);
        due.is("whose 5", full.says(0, 5), -1);
        due.is("no SOUL", new OvenNames().says(0, -1), -1);
    }

    private static void feudOneOrNone(Due due) {
        OvenNames x = Due.village(FULL);
        int count = 0;
        for (int soul = 0; soul < 5; soul++) {
            for (int other = 0; other < soul; other++) {
                due.is("begins", x.feud(soul, other), 1);
                count++;
                due.is("FEUDS", x.about(2), count);
            }
        }
        due.is("all of them", x.about(2), 10);
        for (int soul = 0; soul < 5; soul++) {
            for (int other = soul + 1; other < 5; other++) {
                due.is("ends", x.feud(soul, other), 0);
                count--;
                due.is("FEUDS", x.about(2), count);
            }
        }
        due.is("told ones end too", Due.village("soul a needs 1;soul b needs 1;feud a with b;").feud(1, 0), 0);
    }

    private static void feudRefused(Due due) {
        for (int soul = 0; soul < 3; soul++) {
            int same = soul;
            Sight.refuses(due, "feud(" + soul + ", " + soul + ")", x -> x.feud(same, same), -1);
        }
        for (int soul : NO_SOUL) {
            Sight.refuses(due, "feud(" + soul + ", 0)", x -> x.feud(soul, 0), -1);
            Sight.refuses(due, "feud(0, " + soul + ")", x -> x.feud(0, soul), -1);
            Sight.refuses(due, "feud(" + soul + ", " + soul + ")", x -> x.feud(soul, soul), -1);
        }
        due.is("SOUL 5", Due.village(FULL).feud(4, 5), -1);
        due.is("SOUL 5", Due.village(FULL).feud(5, 4), -1);
        due.is("one alone", Due.village("soul a needs 1;").feud(0, 0), -1);
    }

    private static void breadBits(Due due) {
        OvenNames x = Due.village(FULL);
        due.is("none", x.bread(), 0);
        for (int soul = 0; soul < 5; soul++) {
            x.says(soul, soul);
        }
        due.is("all", x.bread(), 31);
        due.is("no SOULS", new OvenNames().bread(), 0);
        due.is("who needs nothing", Due.village("soul a needs 1;soul b needs 0;").bread(), 2);
    }

    /** So many are more than 512 calls, where answers are free; the program keeps to it all the same. */
    private static void breadRefused(Due due) {
        OvenNames x = Due.village("soul a needs 0 stays 4;soul b needs 1;");
        for (int week = 1; week <= 998; week++) {
            x.bread();
        }
        x.says(1, 0);
        due.is("the 999th", x.bread(), 3);
        due.is("week", x.about(5), 999);
        x.undo();
        due.is("week, a BREAD before", x.about(5), 998);
        due.is("the 999th once more", x.bread(), 3);
        x.says(1, 0);
        int seed = x.about(4);
        due.is("the 1000th", x.bread(), -1);
        due.is("week", x.about(5), 999);
        due.is("SEED", x.about(4), seed);
        due.is("he says it still", x.soul(1, 2), 0);
        due.is("FED", x.soul(0, 7), 999);
        due.is("SHAMED", x.soul(1, 8), 1);
        due.is("ACTS that can be undone", x.about(7), 40);
        x.image(0);
        x.back(0);
        due.is("of an image", x.bread(), -1);
        due.is("no ACTS", x.about(7), 0);
    }

    private static void undoRefused(Due due) {
        due.no("of a new object", new OvenNames().undo());
        OvenNames x = Due.village(Sight.VILLAGE);
        due.no("of a new VILLAGE", x.undo());
        x.does(0, 0);
        due.yes("one", x.undo());
        due.no("no more", x.undo());
        due.is("can be done again", x.about(8), 1);
        due.yes("again", x.redo());
        x.image(1);
        x.back(1);
        due.no("of an image", x.undo());
        // nothing is changed
        OvenNames one = Sight.rich();
        OvenNames other = Sight.rich();
        for (int i = 0; i < 5; i++) {
            due.yes("undo", one.undo());
            other.undo();
        }
        due.no("no more", one.undo());
        Sight.alike(due, "undo() of none", one, other);
    }

    private static void redoRefused(Due due) {
        due.no("of a new object", new OvenNames().redo());
        OvenNames x = Due.village(Sight.VILLAGE);
        due.no("of a new VILLAGE", x.redo());
        x.does(0, 0);
        due.no("nothing was taken back", x.redo());
        x.undo();
        due.yes("one", x.redo());
        due.no("no more", x.redo());
        OvenNames one = Sight.rich();
        OvenNames other = Sight.rich();
        for (int i = 0; i < 2; i++) {
            due.yes("redo", one.redo());
            other.redo();
        }
        due.no("no more", one.redo());
        Sight.alike(due, "redo() of none", one, other);
    }

    private static void stoneOnlyLooks(Due due) {
        due.no("of a new object", new OvenNames().stone());
        Sight.onlyLooks(due, "stone()", OvenNames::stone);
    }

    private static void fedBits(Due due) {
        due.is("of a new object", new OvenNames().fed(), 0);
        OvenNames x = Due.village(FULL);
        due.is("none", x.fed(), 0);
        for (int soul = 0; soul < 5; soul++) {
            x.says(soul, soul);
            due.is("so many", x.fed(), (2 << soul) - 1);
        }
        Sight.onlyLooks(due, "fed()", OvenNames::fed);
    }
}
