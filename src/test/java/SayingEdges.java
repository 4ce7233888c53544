/** Terms, part 3: SAYINGS, SILENT, SPOILER, PEACE, PAIRS; promises 15 to 25 and 32. */
final class SayingEdges {
    private static final int LOW = Sight.LOW;
    private static final int HIGH = Sight.HIGH;
    private static final String FIVE = "soul a needs 1;soul b needs 1;soul c needs 1;soul d needs 1;soul e needs 1;";
    private static final String TEN_FEUDS = "feud a with b;feud a with c;feud a with d;feud a with e;feud b with c;"
            + "feud b with d;feud b with e;feud c with d;feud c with e;feud d with e;";
    private static final String NOTHING = "soul a needs 1;soul b needs 1;loaf 0;";

    private SayingEdges() {
    }

    static void addTo(Edges edges) {
        edges.terms(3, "(By what is now; nothing is done.)", SayingEdges::nothingIsDone);
        edges.terms(3, "one is ahead of another one, if at the first SOUL who says other things he says none there,"
                + " or the NAME of the less number.", SayingEdges::order);
        edges.terms(3, "SAYINGS by which all of these are FED and fewest say another one's NAME; of like ones the first.",
                SayingEdges::feedLeastShame);
        edges.terms(3, "RICHEST: those by which what all get together is most; of like ones the first.",
                SayingEdges::richestFirst);
        edges.terms(3, "STEADY: those in which no SOUL GETS more by saying something else, all others as they are.",
                SayingEdges::steadyJustAsMuch);
        edges.terms(3, "(what he says already, if it is among these; else the first: none, then by number)",
                SayingEdges::restChoice);
        edges.terms(3, "the fewest rounds (0 .. 50) behind which one more changes nothing.", SayingEdges::restRounds);
        edges.terms(3, "SILENT: the fewest of those who say a NAME to say none, so that the BATCH is not STONE;"
                + " of like ones the least set as bits.", SayingEdges::silentLeast);
        edges.terms(3, "SPOILER: of those who say a NAME the one by whom, if he says none, all others together GET most;"
                + " of like ones the first.", SayingEdges::spoilerFirst);
        edges.terms(3, "PEACE: the most SOULS of which no two have a FEUD; of like ones the least set as bits.",
                SayingEdges::peaceLeast);
        edges.terms(3, "PAIRS: twos of SOULS without FEUD, each SOUL in one at most; a two is worth the less of both LOAVES",
                SayingEdges::pairsOfWhom);
        edges.terms(3, "those twos that are worth most together; of like ones the first (SOUL by SOUL: with whom; none first).",
                SayingEdges::pairsFirst);

        edges.promise(15, "FEED: how many say another one's NAME; NONE if they can't all be FED, or it is no set of SOULS.",
                SayingEdges::feedsRefused);
        edges.promise(15, "What each says lies there then (NONE: none; behind NONE: nothing).", SayingEdges::feedsLies);
        edges.promise(16, "RICHEST: how much all get together.", SayingEdges::richestSum);
        edges.promise(16, "What each says lies there then (NONE: none).", SayingEdges::richestLies);
        edges.promise(17, "STEADY: how many. The first lies there then (behind 0: nothing).", SayingEdges::steadyCount);
        edges.promise(18, "Whether what is said now is STEADY.", SayingEdges::isSteadyNow);
        edges.promise(19, "REST: how many rounds; NONE if 50 are not enough.", SayingEdges::restByHand);
        edges.promise(19, "What each says at last lies there then (behind NONE: nothing).", SayingEdges::restLies);
        edges.promise(20, "SILENT, as bits (0 if it is not STONE).", SayingEdges::silentNone);
        edges.promise(21, "NONE if none says a NAME, or for another what.", SayingEdges::spoilerRefused);
        edges.promise(22, "SOULS who say the NAME of one, as bits; NONE if there is none such.", SayingEdges::claims);
        edges.promise(23, "NONE for another what.", SayingEdges::peaceRefused);
        edges.promise(24, "PAIRS: what they are worth together. With whom each is lies there then (NONE: with none).",
                SayingEdges::pairsWorth);
        edges.promise(25, "How many twos of SOULS have LOAVES that are alike.", SayingEdges::alike);
        edges.promise(32, "The i-th number of what lies there; -2 if there is none such.", SayingEdges::lies);
    }

    private static void nothingIsDone(Due due) {
        Sight.onlyLooks(due, "feeds(0)", x -> x.feeds(0));
        Sight.onlyLooks(due, "feeds(7)", x -> x.feeds(7));
        Sight.onlyLooks(due, "richest()", OvenNames::richest);
        Sight.onlyLooks(due, "steady()", OvenNames::steady);
        Sight.onlyLooks(due, "isSteady()", OvenNames::isSteady);
        Sight.onlyLooks(due, "rest()", OvenNames::rest);
        Sight.onlyLooks(due, "silent()", OvenNames::silent);
        Sight.onlyLooks(due, "spoiler(0)", x -> x.spoiler(0));
        Sight.onlyLooks(due, "spoiler(1)", x -> x.spoiler(1));
        Sight.onlyLooks(due, "claims(1)", x -> x.claims(1));
        Sight.onlyLooks(due, "peace(1)", x -> x.peace(1));
        Sight.onlyLooks(due, "pairs()", OvenNames::pairs);
        Sight.onlyLooks(due, "alike()", OvenNames::alike);
        Sight.onlyLooks(due, "makes(0, 6)", x -> x.makes(0, 6));
        Sight.onlyLooks(due, "wants(0, 6, 1)", x -> x.wants(0, 6, 1));
        Sight.onlyLooks(due, "warm(0, 6)", x -> x.warm(0, 6));
        Sight.onlyLooks(due, "will(0, 60)", x -> x.will(0, 60));
        Sight.onlyLooks(due, "odds(0, 3, 6, 0)", x -> x.odds(0, 3, 6, 0));
        Sight.onlyLooks(due, "soonest(0, 99)", x -> x.soonest(0, 99));
    }

    private static void order(Due due) {
        // none is ahead of each NAME
        OvenNames x = Due.village(NOTHING);
        x.richest();
        due.lie("none, none", x, -1, -1);
        // SOUL 0 says none in the first that is as good; then SOUL 1 the less number
        OvenNames y = Due.village("soul a needs 1;soul b needs 1;soul c needs 1;loaf 6*(said=1);");
        due.is("one alone", y.richest(), 6);
        due.lie("the last SOUL says the first NAME", y, -1, -1, 0);
        // the first SOUL counts before all others
        OvenNames z = Due.village("soul a needs 1;soul b needs 1;feud a with b;");
        due.is("one of two foes", z.richest(), 10);
        due.lie("SOUL 0 says none", z, -1, 0);
        whateverIsSaid(due, "soul a needs 3 stays 6;soul b needs 2 stays 4;soul c needs 1 stays 1;feud a with c;loaf stay+said;");
        whateverIsSaid(due, "soul a needs 1;soul b needs 1;soul c needs 1;loaf 6*(said=1);");
    }

    /** What is said now counts for none of the SAYINGS that are looked for. */
    private static void whateverIsSaid(Due due, String village) {
        OvenNames still = Due.village(village);
        for (int way = 1; way < 64; way++) {
            OvenNames x = Due.village(village);
            for (int soul = 0; soul < 3; soul++) {
                x.says(soul, (way >> soul * 2 & 3) - 1);
            }
            for (int set = 0; set < 8; set++) {
                due.is("feeds(" + set + ")", x.feeds(set), still.feeds(set));
                lieAlike(due, "feeds(" + set + ")", x, still);
            }
            due.is("richest()", x.richest(), still.richest());
            lieAlike(due, "richest()", x, still);
            due.is("steady()", x.steady(), still.steady());
            lieAlike(due, "steady()", x, still);
        }
    }

    private static void lieAlike(Due due, String call, OvenNames one, OvenNames other) {
        for (int i = 0; i < 4; i++) {
            due.is(call + " lies(" + i + ")", one.lies(i), other.lies(i));
        }
    }

    private static void feedLeastShame(Due due) {
        OvenNames x = Due.village("soul a needs 5 stays 9;soul b needs 5 stays 9;soul c needs 5 stays 1;loaf stay;");
        due.is("c by a's or b's", x.feeds(4), 1);
        due.lie("a's comes first", x, -1, -1, 0);
        due.is("b by his own", x.feeds(2), 0);
        due.lie("his own", x, -1, 1, -1);
        due.is("a and c", x.feeds(5), 1);
        due.lie("a his own, c b's", x, 0, -1, 1);
        due.is("all can't be", x.feeds(7), -1);
        // b is FED by a whole 4 alone: he and one more must be ashamed
        OvenNames y = Due.village("soul a needs 1 stays 4;soul b needs 4 stays 2;soul c needs 2 stays 4;loaf stay;");
        due.is("all", y.feeds(7), 2);
        due.lie("a and c share a's, b says c's", y, 0, 2, 0);
    }

    private static void richestFirst(Due due) {
        OvenNames x = Due.village(FIVE + "loaf 99;");
        due.is("each a whole one", x.richest(), 495);
        due.lie("the first of 120", x, 0, 1, 2, 3, 4);
        OvenNames y = Due.village("soul a needs 1;soul b needs 1;loaf 7;");
        due.is("7 and 7", y.richest(), 14);
        due.lie("of two", y, 0, 1);
        // 4 shared by two is as much as 4 for one, who comes first with the other silent
        OvenNames z = Due.village("soul a needs 1 stays 4;soul b needs 1;loaf stay;");
        due.is("4, or 2 and 2", z.richest(), 4);
        due.lie("SOUL 0 says none", z, -1, 0);
    }

    private static void steadyJustAsMuch(Due due) {
        // 6 and 3: half of 6 is just as much as 3, so none leaves
        OvenNames x = Due.village("soul a needs 1 stays 6;soul b needs 1 stays 3;loaf stay;");
        due.is("both a's, or one each", x.steady(), 3);
        due.lie("both say a's", x, 0, 0);
        // 6 and 4: 4 is more than half of 6
        OvenNames y = Due.village("soul a needs 1 stays 6;soul b needs 1 stays 4;loaf stay;");
        due.is("one each", y.steady(), 2);
        due.lie("each his own", y, 0, 1);
        // 6 and 2: half of 6 is more
        OvenNames z = Due.village("soul a needs 1 stays 6;soul b needs 1 stays 2;loaf stay;");
        due.is("both a's", z.steady(), 1);
        due.lie("both a's", z, 0, 0);
        // 7 and 3: half of 7, cut, is just 3
        due.is("cut", Due.village("soul a needs 1 stays 7;soul b needs 1 stays 3;loaf stay;").steady(), 3);
    }

    private static void restChoice(Due due) {
        // by what he says already he GETS as much
        OvenNames x = Due.village("soul a needs 1;soul b needs 1;soul c needs 1;loaf 7;");
        x.says(0, 2);
        x.says(1, 1);
        x.says(2, 0);
        due.is("at rest", x.rest(), 0);
        due.lie("what they say already", x, 2, 1, 0);
        // as nothing is to be had, none changes: neither he who says none
        OvenNames y = Due.village(NOTHING);
        y.says(1, 0);
        due.is("at rest", y.rest(), 0);
        due.lie("what they say already", y, -1, 0);
        // of like ones that are better, the first by number
        OvenNames z = Due.village("soul a needs 1;soul b needs 1;soul c needs 1;loaf 7;");
        due.is("one round", z.rest(), 1);
        due.lie("by number", z, 0, 1, 2);
        // STONE: none can leave it alone, so all stay
        OvenNames w = Due.village("soul a needs 1;soul b needs 1;soul c needs 1;feud a with b;feud b with c;feud a with c;");
        w.says(0, 1);
        w.says(1, 1);
        w.says(2, 1);
        due.is("STONE is at rest", w.rest(), 0);
        due.lie("what they say already", w, 1, 1, 1);
    }

    private static void restRounds(Due due) {
        // by said 1: 3 and 10, by said 2: 10 and 4; first b's and a's, then both a's, where it stays
        OvenNames x = Due.village("soul a needs 1 stays 9;soul b needs 1 stays 3;loaf (stay+said*7)%13;");
        due.is("two rounds", x.rest(), 2);
        due.lie("both a's", x, 0, 0);
        x.says(0, 1);
        x.says(1, 0);
        due.is("one round", x.rest(), 1);
        due.lie("both a's", x, 0, 0);
        x.says(0, 0);
        due.is("no round", x.rest(), 0);
        due.lie("both a's", x, 0, 0);
        due.is("no SOULS", new OvenNames().rest(), 0);
    }

    private static void silentLeast(Due due) {
        OvenNames x = Due.village("soul a needs 1;soul b needs 1;feud a with b;");
        x.says(0, 0);
        x.says(1, 1);
        due.is("a or b", x.silent(), 1);
        OvenNames y = Due.village(FIVE + TEN_FEUDS);
        for (int soul = 0; soul < 5; soul++) {
            due.is("all but the last who says one", y.silent(), (1 << Math.max(0, soul - 1)) - 1);
            y.says(soul, 0);
        }
        due.is("all but one", y.silent(), 15);
        y.says(0, -1);
        due.is("only those who say one", y.silent(), 14);
        // one who has two FEUDS is fewer than two who have one each
        OvenNames z = Due.village(FIVE + "feud a with e;feud b with e;");
        for (int soul = 0; soul < 5; soul++) {
            z.says(soul, 0);
        }
        due.is("the last one alone", z.silent(), 16);
        z.feud(2, 3);
        due.is("two; the least set", z.silent(), 16 | 4);
    }

    private static void spoilerFirst(Due due) {
        OvenNames x = Due.village("soul a needs 1;soul b needs 1;soul c needs 1;loaf 6;");
        x.says(0, 0);
        x.says(1, 1);
        due.is("of like ones the first", x.spoiler(0), 0);
        due.is("what the other GETS", x.spoiler(1), 6);
        x.says(0, 1);
        x.says(2, 2);
        due.is("either of those who share", x.spoiler(0), 0);
        due.is("6 and 6", x.spoiler(1), 12);
        // STONE stays, whoever says none: 0, by the first who says one
        OvenNames y = Due.village(FIVE + TEN_FEUDS);
        y.says(1, 1);
        y.says(2, 2);
        y.says(3, 3);
        due.is("STONE all the same", y.spoiler(0), 1);
        due.is("STONE all the same", y.spoiler(1), 0);
        y.says(3, -1);
        due.is("of two foes the first", y.spoiler(0), 1);
        due.is("what the other GETS", y.spoiler(1), 10);
    }

    private static void peaceLeast(Due due) {
        OvenNames x = Due.village(FIVE + TEN_FEUDS);
        due.is("one", x.peace(0), 1);
        due.is("the first", x.peace(1), 1);
        x.feud(3, 4);
        due.is("two", x.peace(0), 2);
        due.is("these two", x.peace(1), 24);
        x.feud(0, 4);
        due.is("two", x.peace(0), 2);
        due.is("the least set", x.peace(1), 17);
        OvenNames y = Due.village(FIVE + "feud a with b;");
        due.is("four", y.peace(0), 4);
        due.is("without b", y.peace(1), 29);
        due.is("without FEUD", Due.village(FIVE).peace(0), 5);
        due.is("without FEUD", Due.village(FIVE).peace(1), 31);
        due.is("no SOULS", new OvenNames().peace(0), 0);
        due.is("no SOULS", new OvenNames().peace(1), 0);
    }

    private static void pairsOfWhom(Due due) {
        OvenNames x = Due.village("soul a needs 1 stays 9;soul b needs 1 stays 4;soul c needs 1 stays 7;loaf stay;");
        due.is("the less of both", x.pairs(), 7);
        due.lie("a and c", x, 2, -1, 0);
        x.feud(0, 2);
        due.is("not a and c", x.pairs(), 4);
        due.lie("b and c come first", x, -1, 2, 1);
        x.feud(1, 2);
        due.is("a and b", x.pairs(), 4);
        due.lie("a and b", x, 1, 0, -1);
        x.feud(0, 1);
        due.is("all have a FEUD", x.pairs(), 0);
        due.lie("none", x, -1, -1, -1);
        due.is("one SOUL", Due.village("soul a needs 1;").pairs(), 0);
        // by FEUDS alone it is told who is left for whom
        OvenNames y = Due.village("soul a needs 1;soul b needs 1;soul c needs 1;soul d needs 1;feud a with b;feud c with d;");
        due.is("two twos", y.pairs(), 20);
        due.lie("a and c, b and d", y, 2, 3, 0, 1);
        y.feud(0, 2);
        due.is("two twos", y.pairs(), 20);
        due.lie("a and d, b and c", y, 3, 2, 1, 0);
    }

    private static void pairsFirst(Due due) {
        OvenNames x = Due.village(FIVE + "loaf 99;");
        due.is("two twos", x.pairs(), 198);
        due.lie("SOUL 0 with none", x, -1, 2, 1, 4, 3);
        OvenNames y = Due.village("soul a needs 1;soul b needs 1;soul c needs 1;soul d needs 1;");
        due.is("two twos", y.pairs(), 20);
        due.lie("0 with 1", y, 1, 0, 3, 2);
        OvenNames z = Due.village(FIVE + "loaf 0;");
        due.is("worth nothing", z.pairs(), 0);
        due.lie("none", z, -1, -1, -1, -1, -1);
    }

    private static void feedsRefused(Due due) {
        for (int set : new int[] {LOW, LOW + 1, -8, -1, 8, 9, 15, 16, 31, 32, HIGH}) {
            Sight.leavesNothing(due, "feeds(" + set + ")", x -> x.feeds(set), -1);
        }
        // ann and bob have a FEUD and need something both
        Sight.leavesNothing(due, "feeds(3)", x -> x.feeds(3), -1);
        OvenNames x = Due.village(FIVE + "loaf 1;");
        due.is("all SOULS", x.feeds(31), 0);
        due.is("one more", x.feeds(32), -1);
        due.is("no SOULS", new OvenNames().feeds(0), 0);
        due.is("no such SOUL", new OvenNames().feeds(1), -1);
        // just enough, and one less
        due.is("needs 10", Due.village("soul a needs 10;").feeds(1), 0);
        due.is("needs 11", Due.village("soul a needs 11;").feeds(1), -1);
        due.is("all by another one's NAME", Due.village("soul a needs 1;soul b needs 1;soul c needs 0 stays 9;"
                + "loaf stay;").feeds(3), 2);
    }

    private static void feedsLies(Due due) {
        OvenNames x = Due.village(FIVE + "loaf 1;");
        x.feeds(31);
        due.lie("each his own", x, 0, 1, 2, 3, 4);
        x.feeds(0);
        due.lie("none", x, -1, -1, -1, -1, -1);
        x.feeds(16);
        due.lie("the last", x, -1, -1, -1, -1, 4);
        x.feeds(32);
        due.lie("nothing", x);
        OvenNames y = Due.village("soul a needs 0;soul b needs 0;loaf 0;");
        due.is("who needs nothing is FED without", y.feeds(3), 0);
        due.lie("none", y, -1, -1);
        OvenNames z = new OvenNames();
        z.feeds(0);
        due.lie("of no SOULS", z);
    }

    private static void richestSum(Due due) {
        due.is("no SOULS", new OvenNames().richest(), 0);
        due.is("nothing to get", Due.village(NOTHING).richest(), 0);
        due.is("one", Due.village("soul a needs 1;loaf 99;").richest(), 99);
        due.is("five of 99", Due.village(FIVE + "loaf 99;").richest(), 495);
        due.is("all are foes", Due.village(FIVE + TEN_FEUDS + "loaf 99;").richest(), 99);
        // 1 is nothing for two, so one more NAME is worth more than one shared
        due.is("cut", Due.village("soul a needs 1;soul b needs 1;loaf (stay=0)*1;").richest(), 2);
        due.is("what all say together counts", Due.village(FIVE + "loaf 20*(said<3);").richest(), 40);
    }

    private static void richestLies(Due due) {
        OvenNames x = Due.village(FIVE + TEN_FEUDS + "loaf 99;");
        x.richest();
        due.lie("the last SOUL the first NAME", x, -1, -1, -1, -1, 0);
        OvenNames y = new OvenNames();
        y.richest();
        due.lie("of no SOULS", y);
        Due.put(y, "soul a needs 1;");
        y.village();
        y.richest();
        due.lie("of one", y, 0);
    }

    private static void steadyCount(Due due) {
        OvenNames x = new OvenNames();
        due.is("of no SOULS", x.steady(), 1);
        due.lie("of no SOULS", x);
        OvenNames one = Due.village("soul a needs 1;loaf 1;");
        due.is("of one", one.steady(), 1);
        due.lie("of one", one, 0);
        OvenNames idle = Due.village("soul a needs 1;loaf 0;");
        due.is("nothing to get", idle.steady(), 2);
        due.lie("nothing to get", idle, -1);
        OvenNames all = Due.village(FIVE + "loaf 0;");
        due.is("all there are", all.steady(), 7776);
        due.lie("all there are", all, -1, -1, -1, -1, -1);
        OvenNames full = Due.village(FIVE + "loaf 99;");
        // five NAMES for five SOULS: each order of them, as two halves are less than a whole
        due.is("each says one of his own", full.steady(), 120);
        due.lie("each says one of his own", full, 0, 1, 2, 3, 4);
    }

    private static void isSteadyNow(Due due) {
        due.yes("of no SOULS", new OvenNames().isSteady());
        OvenNames x = Due.village("soul a needs 1 stays 6;soul b needs 1 stays 3;loaf stay;");
        due.no("none says", x.isSteady());
        x.says(0, 0);
        due.no("the other one says none", x.isSteady());
        x.says(1, 0);
        due.yes("just as much", x.isSteady());
        x.says(1, 1);
        due.yes("one each", x.isSteady());
        x.says(0, 1);
        due.no("both the less one", x.isSteady());
    }

    /** Plays the rounds by says and soul alone, from each SAYINGS of some VILLAGES. */
    private static void restByHand(Due due) {
        String souls = "soul a needs 1 stays 9;soul b needs 1 stays 3;soul c needs 1 stays 6;";
        String[] villages = {souls + "loaf stay;", souls + "loaf (stay+said*7)%13;", souls + "loaf stay*said;",
            souls + "loaf 30-said*9-stay;", souls + "feud a with b;loaf stay%(said+1)*9;", souls + "loaf 0;"};
        for (String village : villages) {
            for (int way = 0; way < 64; way++) {
                OvenNames x = Due.village(village);
                for (int soul = 0; soul < 3; soul++) {
                    x.says(soul, (way >> soul * 2 & 3) - 1);
                }
                int rounds = x.rest();
                int[] last = {x.lies(0), x.lies(1), x.lies(2)};
                int played = 0;
                while (played <= 50 && playRound(x)) {
                    played++;
                }
                due.is("rounds", rounds, played);
                for (int soul = 0; soul < 3; soul++) {
                    due.is("says at last", last[soul], x.soul(soul, 2));
                }
            }
        }
    }

    private static boolean playRound(OvenNames x) {
        boolean changes = false;
        for (int soul = 0; soul < x.about(0); soul++) {
            int said = x.soul(soul, 2);
            int best = said;
            int most = x.soul(soul, 6);
            for (int whose = -1; whose < x.about(0); whose++) {
                x.says(soul, whose);
                if (x.soul(soul, 6) > most) {
                    most = x.soul(soul, 6);
                    best = whose;
                }
            }
            x.says(soul, best);
            changes |= best != said;
        }
        return changes;
    }

    private static void restLies(Due due) {
        OvenNames x = new OvenNames();
        due.is("of no SOULS", x.rest(), 0);
        due.lie("of no SOULS", x);
        OvenNames full = Due.village(FIVE + "loaf 99;");
        due.is("one round", full.rest(), 1);
        due.lie("each his own", full, 0, 1, 2, 3, 4);
        OvenNames idle = Due.village(FIVE + "loaf 0;");
        due.is("at rest", idle.rest(), 0);
        due.lie("none", idle, -1, -1, -1, -1, -1);
    }

    private static void silentNone(Due due) {
        due.is("of no SOULS", new OvenNames().silent(), 0);
        OvenNames x = Due.village("soul a needs 1;soul b needs 1;soul c needs 1;feud b with c;");
        due.is("none says", x.silent(), 0);
        x.says(0, 1);
        x.says(1, 1);
        due.is("not STONE", x.silent(), 0);
        x.says(2, 1);
        due.is("STONE", x.silent(), 2);
        x.feud(1, 2);
        due.is("not STONE any more", x.silent(), 0);
    }

    private static void spoilerRefused(Due due) {
        due.is("of no SOULS", new OvenNames().spoiler(0), -1);
        due.is("of no SOULS", new OvenNames().spoiler(1), -1);
        OvenNames x = Due.village(FIVE);
        due.is("none says", x.spoiler(0), -1);
        due.is("none says", x.spoiler(1), -1);
        x.says(4, 4);
        due.is("one alone", x.spoiler(0), 4);
        due.is("none is left to GET", x.spoiler(1), 0);
        for (int what : new int[] {LOW, -2, -1, 2, 3, HIGH}) {
            due.is("spoiler(" + what + ")", x.spoiler(what), -1);
            Sight.refuses(due, "spoiler(" + what + ")", each -> each.spoiler(what), -1);
        }
        x.says(4, -1);
        due.is("none says any more", x.spoiler(0), -1);
    }

    private static void claims(Due due) {
        OvenNames x = Due.village(FIVE);
        due.is("none", x.claims(0), 0);
        for (int soul = 0; soul < 5; soul++) {
            x.says(soul, 4);
            due.is("so many", x.claims(4), (2 << soul) - 1);
        }
        due.is("none", x.claims(3), 0);
        due.is("5", x.claims(5), -1);
        due.is("of no SOULS", new OvenNames().claims(0), -1);
        // -1 is none's NAME, not that of those who say none
        for (int whose : new int[] {LOW, -2, -1, 3, 4, 5, 32, HIGH}) {
            Sight.refuses(due, "claims(" + whose + ")", each -> each.claims(whose), -1);
        }
    }

    private static void peaceRefused(Due due) {
        for (int what : new int[] {LOW, -2, -1, 2, 3, HIGH}) {
            Sight.refuses(due, "peace(" + what + ")", x -> x.peace(what), -1);
            due.is("of no SOULS", new OvenNames().peace(what), -1);
        }
    }

    private static void pairsWorth(Due due) {
        OvenNames x = new OvenNames();
        due.is("of no SOULS", x.pairs(), 0);
        due.lie("of no SOULS", x);
        OvenNames one = Due.village("soul a needs 1;");
        due.is("of one", one.pairs(), 0);
        due.lie("of one", one, -1);
        OvenNames two = Due.village("soul a needs 1;soul b needs 1;loaf 99;");
        due.is("of two", two.pairs(), 99);
        due.lie("of two", two, 1, 0);
        OvenNames foes = Due.village(FIVE + TEN_FEUDS);
        due.is("of foes", foes.pairs(), 0);
        due.lie("of foes", foes, -1, -1, -1, -1, -1);
    }

    private static void alike(Due due) {
        due.is("of no SOULS", new OvenNames().alike(), 0);
        due.is("of one", Due.village("soul a needs 1;").alike(), 0);
        due.is("of two", Due.village("soul a needs 1;soul b needs 2;").alike(), 1);
        due.is("of five", Due.village(FIVE).alike(), 10);
        due.is("all unlike", Due.village("soul a needs 1 stays 1;soul b needs 1 stays 2;soul c needs 1 stays 3;"
                + "soul d needs 1 stays 4;soul e needs 1 stays 5;loaf stay;").alike(), 0);
        // above 99 all are 99
        due.is("99 at most", Due.village("soul a needs 1 stays 1;soul b needs 1 stays 2;loaf 98+stay;").alike(), 1);
    }

    private static void lies(Due due) {
        due.is("of a new object", new OvenNames().lies(0), -2);
        OvenNames x = Due.village(FIVE);
        due.is("of a new VILLAGE", x.lies(0), -2);
        x.richest();
        for (int i : new int[] {LOW, -2, -1, 5, 6, 32, HIGH}) {
            due.is("lies(" + i + ")", x.lies(i), -2);
        }
        due.is("the first", x.lies(0), 0);
        due.is("the last", x.lies(4), 4);
        Sight.refuses(due, "lies(3)", each -> each.lies(3), -2);
        Sight.refuses(due, "lies(-1)", each -> each.lies(-1), -2);
        Sight.refuses(due, "lies(0)", each -> each.lies(0), -1);
        // it stays till something else lies there, or another VILLAGE comes
        x.bread();
        x.does(0, 0);
        x.undo();
        x.image(0);
        x.back(0);
        x.report(0, 0, 0, 0);
        x.isSteady();
        x.silent();
        due.lie("it stays", x, 0, 1, 2, 3, 4);
        Due.put(x, "$");
        x.village();
        due.lie("behind a FAULT", x, 0, 1, 2, 3, 4);
        x.village();
        due.lie("of another VILLAGE", x);
    }
}
