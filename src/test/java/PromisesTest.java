/** Each promise by its number: ordinary calls, the edges that the document names, wrong arguments. */
public final class PromisesTest {
    private static final String THREE = "deed lie;deed help;soul ann needs 5;soul bob needs 8 stays 3;soul cid needs 0;"
            + "feud ann with bob;loaf 6+help*8-lie*5+stay;heat 2;draw 9;";
    private static final String FIVE = "soul a needs 1;soul b needs 2;soul c needs 3;soul d needs 4;soul e needs 5;";

    private static Due due = new Due("PromisesTest");

    public static void main(String[] args) {
        aNewObject();
        feedAndEnd();
        village();
        villageTakesAllBack();
        faultsOfTokens();
        faultsOfLines();
        faultsOfFormulas();
        limitsThatStillStand();
        formulas();
        soul();
        does();
        says();
        feud();
        bread();
        undoAndRedo();
        stoneAndFed();
        feeds();
        richest();
        steady();
        rest();
        silent();
        spoiler();
        claims();
        peace();
        pairs();
        alike();
        makes();
        wants();
        warm();
        will();
        odds();
        soonest();
        lies();
        reports();
        later();
        fitSetsSure();
        ask();
        course();
        imageAndBack();
        about();
        due.finish();
    }

    private static void aNewObject() {
        OvenNames x = new OvenNames();
        int[] want = {0, 0, 0, 0, 0, 0, 0, 0, 0, 0, 0, 0, 0, 0};
        for (int what = 0; what < want.length; what++) {
            due.is("1: about(" + what + ")", x.about(what), want[what]);
        }
        due.is("1: fault(0)", x.fault(0), 0);
        due.is("1: fault(1)", x.fault(1), -1);
        due.is("1: soul(0, 0)", x.soul(0, 0), -2);
        due.is("1: steady()", x.steady(), 1);
        due.lie("1: steady()", x);
        due.is("1: rest()", x.rest(), 0);
        due.is("1: village()", x.village(), 0);
        due.is("1: sets(0)", x.sets(0), 1);
        due.is("1: bread()", x.bread(), 0);
        due.is("1: about(4)", x.about(4), 71);
        due.is("1: about(3)", x.about(3), 1);
    }

    private static void feedAndEnd() {
        OvenNames x = new OvenNames();
        due.is("2: feed", x.feed(-1, 0, 0, 0, 0), 20);
        due.is("3: end(21)", x.end(21), -1);
        due.is("3: end(-1)", x.end(-1), -1);
        due.is("3: about(11)", x.about(11), 20);
        due.is("3: end(20)", x.end(20), 20);
        due.is("3: end(0)", x.end(0), 0);
        due.is("3: end(1)", x.end(1), -1);
        for (int i = 1; i <= 80; i++) {
            due.is("2: feed", x.feed(0x20202020, 0x20202020, 0x20202020, 0x20202020, 0x20202020), 20 * i);
        }
        due.is("2: feed above 1600", x.feed(1, 2, 3, 4, 5), -1);
        due.is("2: about(11)", x.about(11), 1600);
        due.is("3: end(1581)", x.end(1581), 1581);
        due.is("2: feed above 1600", x.feed(1, 2, 3, 4, 5), -1);
        due.is("3: end(1580)", x.end(1580), 1580);
        due.is("2: feed of the last", x.feed(0x68656174, 0x20373b0a, 0x0a0a0a0a, 0x0a0a0a0a, 0x0a0a0a0a), 1600);
        due.is("4: village()", x.village(), 0);
        due.is("4: about(3)", x.about(3), 7);
        due.is("4: about(11)", x.about(11), 0);
        // the bytes come highest first, and those at once behind the others
        Due.put(x, "draw 12");
        Due.put(x, "3;");
        due.is("4: village()", x.village(), 0);
        due.is("4: about(4)", x.about(4), 123);
    }

    private static void village() {
        OvenNames x = new OvenNames();
        Due.put(x, THREE);
        due.is("4: village()", x.village(), 3);
        due.is("4: needs", x.soul(1, 0), 8);
        due.is("4: stays", x.soul(1, 3), 3);
        due.is("4: stays untold", x.soul(0, 3), 0);
        due.is("4: feuds", x.soul(0, 9), 2);
        due.is("4: heat", x.about(3), 2);
        due.is("4: draw", x.about(4), 9);
        due.is("4: loaf", x.soul(1, 5), 9);
        due.is("4: loaf untold", Due.village("soul a needs 1;").soul(0, 5), 10);
        due.is("4: units of loaf untold", Due.village("soul a needs 1;").about(12), 0);
        // blanks part TOKENS or not; a NAME may be that of a DEED and that of a SOUL
        OvenNames y = Due.village("\n deed a ;deed\nb;soul a needs7 stays9;soul b needs 007;feud a with b;loaf\n3+a;heat9;draw0999 ;\n");
        due.is("4: souls", y.about(0), 2);
        due.is("4: deeds", y.about(1), 2);
        due.is("4: needs", y.soul(0, 0), 7);
        due.is("4: stays", y.soul(0, 3), 9);
        due.is("4: needs", y.soul(1, 0), 7);
        due.is("4: heat", y.about(3), 9);
        due.is("4: draw", y.about(4), 999);
        // a loaf's DEEDS are told ahead; lines come in any order
        OvenNames z = Due.village("draw 5;deed a;loaf a;deed b;heat 1;soul b needs 0;");
        due.is("4: deeds", z.about(1), 2);
    }

    private static void villageTakesAllBack() {
        OvenNames x = Due.village(THREE);
        x.does(0, 0);
        x.says(0, 1);
        x.bread();
        x.image(2);
        x.later(7);
        x.report(0, 0, 0, 6);
        x.richest();
        // with a FAULT all stays but the TAPE
        Due.put(x, "soul a needs 1;loaf");
        due.is("4: village() with a fault", x.village(), -1);
        int[] stays = {3, 2, 1, 4, 304, 1, 0, 3, 0, 1, 7, 0, 6, 3};
        for (int what = 0; what < stays.length; what++) {
            due.is("4: behind a fault about(" + what + ")", x.about(what), stays[what]);
        }
        due.is("4: behind a fault soul(0, 4)", x.soul(0, 4), 1);
        due.is("4: behind a fault back(2)", x.back(2), 1);
        Due.put(x, "deed z;soul q needs 3;");
        due.is("4: village()", x.village(), 1);
        int[] anew = {1, 1, 0, 0, 0, 0, 0, 0, 0, 0, 7, 0, 0, 0};
        for (int what = 0; what < anew.length; what++) {
            due.is("4: anew about(" + what + ")", x.about(what), anew[what]);
        }
        due.is("4: anew back(2)", x.back(2), -1);
        due.no("4: anew undo()", x.undo());
        due.no("4: anew redo()", x.redo());
        due.is("4: anew soul(0, 4)", x.soul(0, 4), 0);
        due.is("4: anew soul(0, 8)", x.soul(0, 8), 0);
        due.is("4: anew soul(0, 9)", x.soul(0, 9), 0);
    }

    private static void fault(String text, int kind, int place) {
        OvenNames x = Due.village("soul older needs 1;");
        Due.put(x, text);
        due.is("4: village() of " + text, x.village(), -1);
        due.is("5: fault(0) of " + text, x.fault(0), kind);
        due.is("5: fault(1) of " + text, x.fault(1), place);
        due.is("5: fault(2)", x.fault(2), -1);
        due.is("5: fault(-1)", x.fault(-1), -1);
        due.is("4: souls stay", x.about(0), 1);
        due.is("4: the tape is empty", x.about(11), 0);
        due.is("4: village()", x.village(), 0);
        due.is("5: fault(0) of a good one", x.fault(0), 0);
        due.is("5: fault(1) of a good one", x.fault(1), -1);
    }

    private static void faultsOfTokens() {
        fault("$", 1, 0);
        fault(" \n\t", 1, 2);
        fault("\u0000", 1, 0);
        fault("\u00e4", 1, 0);
        fault("\u00ff", 1, 0);
        fault("deed A;", 1, 5);
        fault("Deed a;", 1, 0);
        fault("deed a_b;", 1, 6);
        fault("deed abcdefghi;", 1, 5);
        fault("deed abcdefgh", 2, 13);
        fault("heat 00009;", 1, 5);
        fault("heat 9a;", 1, 5);
        fault("soul a needs 5stays 3;", 1, 13);
        fault("loaf 1 $", 1, 7);
        fault("loaf $", 1, 5);
        fault("loaf 1+$", 1, 7);
        fault("loaf 1<2<$", 2, 8);
        fault("deedabcde;", 1, 0);
        // the first by its place
        fault("heat 10; $", 4, 5);
        fault("oven $", 2, 0);
    }

    private static void faultsOfLines() {
        fault("oven", 2, 0);
        fault(";", 2, 0);
        fault("5", 2, 0);
        fault("deed", 2, 4);
        fault("deed ", 2, 5);
        fault("deed ;", 2, 5);
        fault("deed 5;", 2, 5);
        fault("deed a", 2, 6);
        fault("deed a  ", 2, 8);
        fault("deed a b;", 2, 7);
        for (String word : "deed soul needs stays feud with loaf heat draw or and not stay old said".split(" ")) {
            fault("deed " + word + ";", 2, 5);
            fault("soul " + word + " needs 1;", 2, 5);
        }
        fault("deed a;deed a;", 3, 12);
        fault("deed a;deed b;deed c;deed d;deed e;deed e;", 2, 35);
        fault("soul a;", 2, 6);
        fault("soul a need 1;", 2, 7);
        fault("soul a needs;", 2, 12);
        fault("soul a needs b;", 2, 13);
        fault("soul a needs 100;", 4, 13);
        fault("soul a needs 9 stays 100;", 4, 21);
        fault("soul a needs 9 stays;", 2, 20);
        fault("soul a needs 9 9;", 2, 15);
        fault("soul a needs 1;soul a needs 1;", 3, 20);
        fault(FIVE + "soul", 2, FIVE.length());
        fault("feud a", 5, 5);
        fault("feud 5", 2, 5);
        fault("deed a;feud a", 5, 12);
        fault("soul a needs 1;feud a a", 2, 22);
        fault("soul a needs 1;feud a with b;", 5, 27);
        fault("soul a needs 1;feud a with a;", 3, 27);
        fault("soul a needs 1;feud a with", 2, 26);
        fault("soul a needs 1;soul b needs 1;feud a with b;feud a with b;", 3, 56);
        fault("soul a needs 1;soul b needs 1;feud a with b;feud b with a;", 3, 56);
        String ten = FIVE + "feud a with b;feud a with c;feud a with d;feud a with e;feud b with c;feud b with d;"
                + "feud b with e;feud c with d;feud c with e;feud d with e;";
        fault(ten + "feud a with b;", 2, ten.length());
        OvenNames x = Due.village(ten);
        due.is("4: ten feuds", x.about(2), 10);
        Due.put(x, ten);
        due.is("4: ten feuds once more", x.village(), 5);
        due.is("4: ten feuds once more", x.about(2), 10);
        fault("heat 10;", 4, 5);
        fault("heat a;", 2, 5);
        fault("heat 1;heat 1;", 2, 7);
        fault("draw 1000;", 4, 5);
        fault("draw 1;draw 1;", 2, 7);
        fault("loaf 1;heat 1;loaf 1;", 2, 14);
    }

    private static void faultsOfFormulas() {
        fault("loaf;", 2, 4);
        fault("loaf x;", 5, 5);
        fault("soul x needs 1;loaf x;", 5, 20);
        fault("loaf x;deed x;", 5, 5);
        fault("loaf soul;", 2, 5);
        fault("loaf 1 2;", 2, 7);
        fault("loaf +1;", 2, 5);
        fault("loaf 1+;", 2, 7);
        fault("loaf 1+-1;", 2, 7);
        fault("loaf 1+not 1;", 2, 7);
        fault("loaf 1<not 1;", 2, 7);
        fault("loaf 1 not 1;", 2, 7);
        fault("loaf not;", 2, 8);
        fault("loaf 1 or;", 2, 9);
        fault("loaf 1<2<3;", 2, 8);
        fault("loaf 1<2+3*4>3;", 2, 12);
        fault("loaf not 1=2=3;", 2, 12);
        fault("loaf (1;", 2, 7);
        fault("loaf 1);", 2, 6);
        fault("loaf ();", 2, 6);
        fault("loaf (1", 2, 7);
        fault("loaf 1", 2, 6);
        fault("loaf ((((((((1))))))));", 2, 12);
        fault("loaf not not not not not not not not 1;", 2, 33);
        fault("loaf not (not (not (not (1))));", 2, 24);
        fault("loaf not not not not not not not 1=(2);", 2, 35);
        StringBuilder ones = new StringBuilder("loaf 1");
        for (int i = 1; i < 30; i++) {
            ones.append("+1");
        }
        fault(ones + "+1;", 2, 65);
        fault(ones + "+x;", 2, 65);
        fault(ones + "+(1);", 2, 65);
        fault(ones + " and not 1;", 2, 73);
        fault(ones + "+$", 1, 65);
        // a unit ( e ) counts, and so do those in it
        fault("loaf (" + ones.substring(5) + ");", 2, 64);
        due.is("43: thirty units", Due.village(ones + ";soul a needs 1;").about(12), 30);
        due.is("2: thirty ones", Due.village(ones + ";soul a needs 1;").soul(0, 5), 30);
        // nothing of a text with a FAULT goes into the next one
        OvenNames x = new OvenNames();
        for (String bad : new String[] {"loaf (((((((1+2", "loaf not not not not not not not 1 or", "loaf 1 or 2<(",
            "loaf 1<"}) {
            Due.put(x, bad);
            due.is("4: village() of " + bad, x.village(), -1);
            Due.put(x, "soul a needs 1;loaf (((((((3)))))))*2 or not not not not not not not 0;");
            due.is("4: village() behind " + bad, x.village(), 1);
            due.is("4: loaf behind " + bad, x.soul(0, 5), 1);
            due.is("4: units behind " + bad, x.about(12), 10);
            Due.put(x, bad);
            due.is("4: village() of " + bad, x.village(), -1);
            Due.put(x, "soul a needs 1;loaf 2<3;");
            due.is("4: relation behind " + bad, x.village(), 1);
            due.is("4: relation behind " + bad, x.soul(0, 5), 1);
            Due.put(x, "soul a needs 1;loaf 3);");
            due.is("4: bracket behind " + bad, x.village(), -1);
            due.is("5: bracket behind " + bad, x.fault(1), 21);
        }
    }

    private static void limitsThatStillStand() {
        due.is("4: seven brackets", Due.village("soul a needs 1;loaf (((((((7)))))));").soul(0, 5), 7);
        due.is("4: seven nots", Due.village("soul a needs 1;loaf not not not not not not not 7;").soul(0, 5), 0);
        due.is("4: nots side by side", Due.village("soul a needs 1;loaf not not not not not not not 0 and "
                + "not not not not not not not 0 or (not not not not not not 1);").soul(0, 5), 1);
        due.is("4: a not ends with its one", Due.village("soul a needs 1;"
                + "loaf not 1<2 and ((((((( 5 ))))))) or not 3;").soul(0, 5), 0);
        StringBuilder nots = new StringBuilder("soul a needs 1;loaf ");
        for (int i = 0; i < 30; i++) {
            nots.append(i == 0 ? "" : " and ").append("not not not not not not not 0");
        }
        OvenNames x = Due.village(nots + ";");
        due.is("4: thirty ones behind seven nots", x.soul(0, 5), 1);
        due.is("4: units", x.about(12), 30);
        due.is("4: eight letters", Due.village("deed abcdefgh;loaf abcdefgh*9;soul abcdefgh needs 1;").makes(0, 9), 2);
    }

    private static void loaf(String e, int want) {
        OvenNames x = Due.village("deed lie;deed help;soul a needs 1 stays 4;soul b needs 1;heat 3;loaf " + e + ";");
        x.does(0, 1);
        x.says(1, 1);
        due.is("2: loaf " + e, x.soul(0, 5), want);
    }

    private static void formulas() {
        loaf("5", 5);
        loaf("lie", 0);
        loaf("help", 1);
        loaf("stay", 4);
        loaf("old", 0);
        loaf("heat", 3);
        loaf("said", 1);
        loaf("99", 99);
        loaf("100", 99);
        loaf("9999", 99);
        loaf("0-5", 0);
        loaf("20-5-3", 12);
        loaf("20-5*3", 5);
        loaf("20-(5-3)", 18);
        loaf("40/4/2", 5);
        loaf("7/2*2", 6);
        loaf("17%5", 2);
        loaf("17%5*3", 6);
        loaf("50+(0-7)/2", 47);
        loaf("50+(0-7)%4", 47);
        loaf("7/0+3", 3);
        loaf("7%0+3", 3);
        loaf("50+9999*9999*9999/9999%7", 50 + 9999 * 9999 * 9999 / 9999 % 7);
        loaf("8*8*8*8*8*8*8*8*8*8*2<0", 1);
        loaf("(8*8*8*8*8*8*8*8*8*8*2)/(0-1)<0", 1);
        loaf("(8*8*8*8*8*8*8*8*8*8*2)%(0-1)", 0);
        loaf("3<4", 1);
        loaf("4<4", 0);
        loaf("4>3", 1);
        loaf("4>4", 0);
        loaf("4=4", 1);
        loaf("4=3", 0);
        loaf("1+1=2", 1);
        loaf("7 and 5", 1);
        loaf("7 and 0", 0);
        loaf("0 or 7", 1);
        loaf("0 or 0", 0);
        loaf("1 or 0 and 0", 1);
        loaf("(1 or 0) and 0", 0);
        loaf("not 0", 1);
        loaf("not 7", 0);
        loaf("not not 7", 1);
        loaf("not 1=2", 1);
        loaf("not 0 and 0", 0);
        loaf("not 0+5", 0);
        loaf("not 1 or 5", 1);
        loaf("(help+heat)*said+(stay>3)*20", 24);
        loaf("(0-3) or 0", 1);
        loaf("2+(lie or help)*5", 7);
    }

    private static void soul() {
        OvenNames x = Due.village(THREE);
        x.does(1, 0);
        x.does(1, 1);
        x.says(1, 2);
        x.says(2, 2);
        int[] want = {8, 3, 2, 3, 0, 12, 3, 0, 0, 1};
        for (int what = 0; what < want.length; what++) {
            due.is("6: soul(1, " + what + ")", x.soul(1, what), want[what]);
        }
        due.is("6: soul(1, 10)", x.soul(1, 10), -2);
        due.is("6: soul(1, -1)", x.soul(1, -1), -2);
        due.is("6: soul(3, 0)", x.soul(3, 0), -2);
        due.is("6: soul(-1, 0)", x.soul(-1, 0), -2);
        x.bread();
        int[] behind = {8, 0, -1, 4, 12, 10, 0, 0, 1, 1};
        for (int what = 0; what < behind.length; what++) {
            due.is("6: behind bread soul(1, " + what + ")", x.soul(1, what), behind[what]);
        }
        due.is("6: soul(0, 2)", x.soul(0, 2), -1);
        due.is("6: soul(2, 7)", x.soul(2, 7), 1);
        due.is("6: soul(2, 8)", x.soul(2, 8), 0);
        OvenNames y = Due.village(FIVE + "feud c with a;feud c with e;");
        due.is("6: soul(2, 9)", y.soul(2, 9), 17);
    }

    private static void does() {
        OvenNames x = Due.village(THREE);
        due.is("7: does", x.does(0, 1), 2);
        due.is("7: does", x.does(0, 0), 3);
        due.is("7: does", x.does(0, 1), 1);
        due.is("7: other", x.soul(1, 1), 0);
        due.is("7: soul 3", x.does(3, 0), -1);
        due.is("7: soul -1", x.does(-1, 0), -1);
        due.is("7: deed 2", x.does(0, 2), -1);
        due.is("7: deed -1", x.does(0, -1), -1);
        due.is("7: acts", x.about(7), 3);
    }

    private static void says() {
        OvenNames x = Due.village(THREE);
        due.is("8: says", x.says(0, 2), 1);
        due.is("8: says", x.says(2, 2), 2);
        due.is("8: says again", x.says(2, 2), 2);
        due.is("8: says another", x.says(0, 1), 1);
        due.is("8: none", x.says(0, -1), 0);
        due.is("8: none again", x.says(0, -1), 0);
        due.is("8: whose 3", x.says(0, 3), -1);
        due.is("8: whose -2", x.says(0, -2), -1);
        due.is("8: soul 3", x.says(3, 0), -1);
        due.is("8: soul -1", x.says(-1, -1), -1);
        due.is("8: acts", x.about(7), 6);
        due.is("8: said", x.about(6), 1);
    }

    private static void feud() {
        OvenNames x = Due.village(THREE);
        due.is("9: feud", x.feud(2, 0), 1);
        due.is("9: both", x.soul(0, 9), 6);
        due.is("9: both", x.soul(2, 9), 1);
        due.is("9: ends", x.feud(1, 0), 0);
        due.is("9: ends", x.feud(0, 2), 0);
        due.is("9: feuds", x.about(2), 0);
        due.is("9: same", x.feud(1, 1), -1);
        due.is("9: soul 3", x.feud(0, 3), -1);
        due.is("9: soul 3", x.feud(3, 0), -1);
        due.is("9: soul -1", x.feud(-1, 0), -1);
        due.is("9: soul -1", x.feud(0, -1), -1);
        due.is("9: acts", x.about(7), 3);
    }

    private static void bread() {
        OvenNames x = Due.village("deed a;soul x needs 0 stays 98;soul y needs 7;soul z needs 7;loaf a*9+said*3+old;draw 999;heat 5;");
        x.says(1, 2);
        x.says(2, 1);
        x.does(1, 0);
        due.is("10: bread", x.bread(), 5);
        int[][] want = {{0, -1, 99, 6, 1, 0}, {0, -1, 1, 15, 0, 1}, {0, -1, 1, 6, 1, 1}};
        int[] whats = {1, 2, 3, 4, 7, 8};
        for (int soul = 0; soul < 3; soul++) {
            for (int i = 0; i < whats.length; i++) {
                due.is("10: soul(" + soul + ", " + whats[i] + ")", x.soul(soul, whats[i]), want[soul][i]);
            }
        }
        due.is("10: seed", x.about(4), (999 * 137 + 71) % 1000);
        due.is("10: heat", x.about(3), 4);
        due.is("10: week", x.about(5), 1);
        due.is("10: bread", x.bread(), 1);
        due.is("10: stay is 99 at most", x.soul(0, 3), 99);
        due.is("10: loaf said no more", x.soul(1, 4), 15);
        // none is fed by stone, but he who needs nothing; shamed are they still
        OvenNames y = Due.village("soul x needs 0;soul y needs 1;feud x with y;");
        y.says(0, 1);
        y.says(1, 1);
        due.is("10: bread of stone", y.bread(), 1);
        due.is("10: shamed", y.soul(0, 8), 1);
        due.is("10: not shamed", y.soul(1, 8), 0);
        due.is("10: old", y.soul(0, 4), 10);
        for (int i = 0; i < 400; i++) {
            y.bread();
        }
        due.is("10: week 401", y.about(5), 401);
        due.is("10: fed 401 times", y.soul(0, 7), 401);
        for (int i = 401; i < 999; i++) {
            y.bread();
        }
        due.is("10: week 999", y.about(5), 999);
        due.is("10: behind 999", y.bread(), -1);
        due.is("10: behind 999 nothing is done", y.about(5), 999);
        due.is("10: behind 999 nothing is done", y.soul(0, 7), 999);
    }

    private static void undoAndRedo() {
        OvenNames x = Due.village(THREE);
        due.no("11: undo of none", x.undo());
        due.no("12: redo of none", x.redo());
        x.does(0, 0);
        x.says(0, 1);
        x.feud(0, 1);
        x.bread();
        due.is("43: undoable", x.about(7), 4);
        due.yes("11: undo bread", x.undo());
        due.is("11: week", x.about(5), 0);
        due.is("11: seed", x.about(4), 9);
        due.is("11: heat", x.about(3), 2);
        due.is("11: says", x.soul(0, 2), 1);
        due.is("11: stay", x.soul(1, 3), 3);
        due.is("11: fed", x.soul(0, 7), 0);
        due.is("11: shamed", x.soul(0, 8), 0);
        due.yes("11: undo feud", x.undo());
        due.is("11: feuds", x.about(2), 1);
        due.yes("11: undo says", x.undo());
        due.is("11: said", x.about(6), 0);
        due.yes("11: undo does", x.undo());
        due.is("11: deeds", x.soul(0, 1), 0);
        due.no("11: undo of none", x.undo());
        due.is("43: redoable", x.about(8), 4);
        due.yes("12: redo", x.redo());
        due.is("12: deeds", x.soul(0, 1), 1);
        due.yes("12: redo", x.redo());
        due.yes("12: redo", x.redo());
        due.yes("12: redo bread", x.redo());
        due.is("12: week", x.about(5), 1);
        due.is("12: seed", x.about(4), 304);
        due.is("12: shamed", x.soul(0, 8), 1);
        due.no("12: redo of none", x.redo());
        x.undo();
        x.undo();
        // what can't be is no ACT; another ACT takes redo away
        x.does(9, 9);
        due.is("12: redoable", x.about(8), 2);
        x.does(1, 1);
        due.is("12: redoable", x.about(8), 0);
        due.no("12: redo", x.redo());
        due.is("11: undoable", x.about(7), 3);
        for (int i = 0; i < 50; i++) {
            x.bread();
        }
        due.is("11: 40 are kept", x.about(7), 40);
        for (int i = 0; i < 40; i++) {
            due.yes("11: undo", x.undo());
        }
        due.no("11: the oldest went", x.undo());
        due.is("11: week", x.about(5), 10);
        due.is("12: redoable", x.about(8), 40);
        for (int i = 0; i < 40; i++) {
            due.yes("12: redo", x.redo());
        }
        due.no("12: redo of none", x.redo());
        due.is("12: week", x.about(5), 50);
    }

    private static void stoneAndFed() {
        OvenNames x = Due.village(THREE);
        due.no("13: none says", x.stone());
        due.is("14: none says", x.fed(), 4);
        x.says(0, 2);
        due.no("13: one says", x.stone());
        due.is("14: fed", x.fed(), 5);
        x.says(2, 1);
        due.no("13: no feud", x.stone());
        x.says(1, 1);
        due.yes("13: two in feud, of unlike names", x.stone());
        due.is("14: stone", x.fed(), 4);
        due.is("6: gets of stone", x.soul(2, 6), 0);
        x.feud(1, 0);
        due.no("13: the feud ended", x.stone());
        due.is("6: gets a half, cut", x.soul(2, 6), 4);
        due.is("14: fed", x.fed(), 5);
        due.is("14: nothing is done", x.about(5), 0);
    }

    private static void feeds() {
        // loaves 6, 4, 2
        OvenNames x = Due.village("soul a needs 2 stays 6;soul b needs 4 stays 4;soul c needs 3 stays 2;loaf stay;");
        due.is("15: none", x.feeds(0), 0);
        due.lie("15: none", x, -1, -1, -1);
        due.is("15: a", x.feeds(1), 0);
        due.lie("15: a", x, 0, -1, -1);
        due.is("15: c", x.feeds(4), 1);
        due.lie("15: c", x, -1, -1, 0);
        due.is("15: b, c", x.feeds(6), 1);
        due.lie("15: b, c", x, -1, 1, 0);
        due.is("15: all", x.feeds(7), 1);
        due.lie("15: all", x, 0, 1, 0);
        due.is("15: no set", x.feeds(8), -1);
        due.lie("15: no set", x);
        x.richest();
        due.is("15: no set", x.feeds(-1), -1);
        due.lie("15: no set", x);
        x.richest();
        x.feud(0, 1);
        due.is("15: all with a feud", x.feeds(7), -1);
        due.lie("15: all with a feud", x);
        due.is("15: nothing is said", x.about(6), 0);
    }

    private static void richest() {
        OvenNames x = Due.village("soul a needs 2 stays 6;soul b needs 4 stays 4;soul c needs 3 stays 2;loaf stay;");
        due.is("16: richest", x.richest(), 12);
        due.lie("16: richest", x, 0, 1, 2);
        x.feud(0, 1);
        due.is("16: with a feud", x.richest(), 10);
        due.lie("16: with a feud", x, -1, 0, 1);
        OvenNames y = Due.village("soul a needs 1;soul b needs 1;loaf 0;");
        due.is("16: nothing", y.richest(), 0);
        due.lie("16: nothing", y, -1, -1);
        // who says none leaves more for the others
        OvenNames z = Due.village("soul a needs 1;soul b needs 1;loaf 30-said*20;");
        due.is("16: one alone", z.richest(), 10 + 10 - 10);
        due.lie("16: one alone", z, -1, 0);
    }

    private static void steady() {
        OvenNames x = Due.village("soul a needs 1 stays 6;soul b needs 1 stays 4;loaf stay;");
        // 6 and 4: each says another one, as 6 / 2 is less than 4
        due.is("17: steady", x.steady(), 2);
        due.lie("17: steady", x, 0, 1);
        due.no("18: none says", x.isSteady());
        x.says(0, 1);
        x.says(1, 0);
        due.yes("18: steady", x.isSteady());
        x.says(0, 0);
        due.no("18: both say a", x.isSteady());
        // nothing to get: all are
        OvenNames y = Due.village("soul a needs 1;soul b needs 1;loaf 0;");
        due.is("17: all", y.steady(), 9);
        due.lie("17: all", y, -1, -1);
        due.yes("18: all", y.isSteady());
        // stone is what none alone can leave
        OvenNames z = Due.village("soul a needs 1;soul b needs 1;feud a with b;");
        due.is("17: with a feud", z.steady(), 8);
        due.lie("17: with a feud", z, -1, 0);
    }

    private static void rest() {
        OvenNames x = Due.village("soul a needs 1 stays 6;soul b needs 1 stays 4;soul c needs 1 stays 3;loaf stay;");
        due.is("19: rest", x.rest(), 1);
        due.lie("19: rest", x, 0, 1, 0);
        due.is("19: nothing is said", x.about(6), 0);
        x.says(0, 2);
        x.says(1, 0);
        x.says(2, 1);
        // a: 3 by c, 3 by half of a: stays; b: 6 stays; c: 4 stays
        due.is("19: at rest", x.rest(), 0);
        due.lie("19: at rest", x, 2, 0, 1);
        OvenNames y = Due.village("soul a needs 1;soul b needs 1;loaf 0;");
        y.says(0, 1);
        due.is("19: what he says already", y.rest(), 0);
        due.lie("19: what he says already", y, 1, -1);
        // what comes later in a round makes the first one choose once more
        OvenNames z = Due.village("soul a needs 1 stays 9;soul b needs 1 stays 8;loaf stay;");
        z.says(0, 1);
        z.says(1, 1);
        due.is("19: two", z.rest(), 1);
        due.lie("19: two", z, 0, 1);
    }

    private static void silent() {
        OvenNames x = Due.village(FIVE + "feud a with b;feud b with c;feud d with e;");
        due.is("20: none says", x.silent(), 0);
        for (int soul = 0; soul < 3; soul++) {
            x.says(soul, 0);
        }
        due.is("20: b", x.silent(), 2);
        x.says(3, 0);
        due.is("20: still b", x.silent(), 2);
        x.says(4, 0);
        due.is("20: b and d", x.silent(), 10);
        x.says(2, -1);
        due.is("20: a and d", x.silent(), 9);
        x.says(1, -1);
        due.is("20: d", x.silent(), 8);
        x.says(4, -1);
        due.is("20: not stone", x.silent(), 0);
    }

    private static void spoiler() {
        OvenNames x = Due.village("soul a needs 1 stays 6;soul b needs 1 stays 4;soul c needs 1 stays 3;loaf stay;feud a with c;");
        due.is("21: none says", x.spoiler(0), -1);
        due.is("21: none says", x.spoiler(1), -1);
        x.says(0, 0);
        due.is("21: one alone", x.spoiler(0), 0);
        due.is("21: one alone", x.spoiler(1), 0);
        x.says(1, 1);
        due.is("21: two", x.spoiler(0), 1);
        due.is("21: two", x.spoiler(1), 6);
        x.says(2, 2);
        due.is("21: stone", x.spoiler(0), 2);
        due.is("21: stone", x.spoiler(1), 10);
        due.is("21: what 2", x.spoiler(2), -1);
        due.is("21: what -1", x.spoiler(-1), -1);
        x.feud(0, 2);
        x.says(0, 1);
        x.says(1, 1);
        x.says(2, 1);
        due.is("21: alike", x.spoiler(0), 0);
        due.is("21: alike", x.spoiler(1), 4);
    }

    private static void claims() {
        OvenNames x = Due.village(THREE);
        x.says(0, 2);
        x.says(2, 2);
        due.is("22: claims", x.claims(2), 5);
        due.is("22: none", x.claims(0), 0);
        due.is("22: -1", x.claims(-1), -1);
        due.is("22: 3", x.claims(3), -1);
    }

    private static void peace() {
        OvenNames x = Due.village(FIVE + "feud a with b;feud b with c;feud c with d;feud d with e;feud a with e;");
        due.is("23: how many", x.peace(0), 2);
        due.is("23: which", x.peace(1), 5);
        x.feud(0, 1);
        due.is("23: how many", x.peace(0), 3);
        due.is("23: which", x.peace(1), 11);
        due.is("23: what 2", x.peace(2), -1);
        due.is("23: what -1", x.peace(-1), -1);
        due.is("23: all", Due.village(FIVE).peace(1), 31);
    }

    private static void pairs() {
        OvenNames x = Due.village("soul a needs 1 stays 6;soul b needs 1 stays 4;soul c needs 1 stays 3;soul d needs 1 stays 9;loaf stay;");
        due.is("24: pairs", x.pairs(), 9);
        due.lie("24: pairs", x, 3, 2, 1, 0);
        x.feud(0, 3);
        due.is("24: with a feud", x.pairs(), 7);
        due.lie("24: with a feud", x, 1, 0, 3, 2);
        x.feud(1, 2);
        x.feud(2, 0);
        x.feud(2, 3);
        due.is("24: c with none", x.pairs(), 4);
        due.lie("24: c with none", x, -1, 3, -1, 1);
        OvenNames y = Due.village("soul a needs 1;soul b needs 1;loaf 0;");
        due.is("24: worth nothing", y.pairs(), 0);
        due.lie("24: worth nothing", y, -1, -1);
        OvenNames z = Due.village("soul a needs 1;soul b needs 1;soul c needs 1;");
        due.is("24: like ones", z.pairs(), 10);
        due.lie("24: like ones", z, -1, 2, 1);
    }

    private static void alike() {
        OvenNames x = Due.village("deed z;" + FIVE + "loaf 4+z;");
        due.is("25: all", x.alike(), 10);
        x.does(0, 0);
        due.is("25: four", x.alike(), 6);
        x.does(3, 0);
        due.is("25: three and two", x.alike(), 4);
    }

    private static void makes() {
        OvenNames x = Due.village("deed a;deed b;deed c;soul s needs 1;loaf a*3+b*2+c;");
        due.is("26: 3", x.makes(0, 3), (1 << 1) | (1 << 6));
        due.is("26: 0", x.makes(0, 0), 1);
        due.is("26: 6", x.makes(0, 6), 1 << 7);
        due.is("26: 7", x.makes(0, 7), 0);
        due.is("26: -1", x.makes(0, -1), 0);
        due.is("26: 100", x.makes(0, 100), 0);
        due.is("26: soul 1", x.makes(1, 3), 0);
        due.is("26: soul -1", x.makes(-1, 3), 0);
        OvenNames y = Due.village("deed a;deed b;deed c;deed d;deed e;soul s needs 1;loaf a+b+c+d+e;");
        due.is("26: all five", y.makes(0, 5), 1 << 31);
        OvenNames z = Due.village("deed a;soul s needs 1;loaf a*said*4+stay;");
        z.says(0, 0);
        due.is("26: by said", z.makes(0, 4), 2);
    }

    private static void wants() {
        OvenNames x = Due.village("deed a;deed b;deed c;soul s needs 1;loaf a*3+b*2+c*3;");
        x.does(0, 0);
        due.is("27: none", x.wants(0, 0, 0), 0);
        due.is("27: none", x.wants(0, 0, 1), 0);
        due.is("27: 3", x.wants(0, 3, 0), 1);
        due.is("27: 3", x.wants(0, 3, 1), 1);
        due.is("27: 4", x.wants(0, 4, 0), 2);
        due.is("27: 4", x.wants(0, 4, 1), 3);
        due.is("27: 6", x.wants(0, 6, 1), 5);
        due.is("27: 8", x.wants(0, 8, 1), 7);
        due.is("27: 9", x.wants(0, 9, 0), -1);
        due.is("27: 9", x.wants(0, 9, 1), -1);
        OvenNames y = Due.village("deed a;deed b;deed c;deed d;soul s needs 1;loaf a*2+b*2+c*4+d*4;");
        due.is("27: one of more is fewer", y.wants(0, 4, 0), 1);
        due.is("27: one of more is fewer", y.wants(0, 4, 1), 4);
        due.is("27: two of more are fewer", y.wants(0, 8, 1), 12);
        due.is("27: the least of like ones", y.wants(0, 6, 1), 5);
        due.is("27: what 2", x.wants(0, 3, 2), -1);
        due.is("27: what -1", x.wants(0, 3, -1), -1);
        due.is("27: soul 1", x.wants(1, 3, 0), -1);
        due.is("27: soul -1", x.wants(-1, 3, 0), -1);
    }

    private static void warm() {
        OvenNames x = Due.village("deed a;soul s needs 1;loaf heat%5+a;heat 9;");
        due.is("28: 4", x.warm(0, 4), (1 << 4) | (1 << 9));
        due.is("28: 0", x.warm(0, 0), 1023);
        due.is("28: 5", x.warm(0, 5), 0);
        x.does(0, 0);
        due.is("28: 5 by a deed", x.warm(0, 5), (1 << 4) | (1 << 9));
        due.is("28: soul 1", x.warm(1, 0), -1);
        due.is("28: soul -1", x.warm(-1, 0), -1);
        due.is("28: nothing is done", x.about(3), 9);
    }

    private static void will() {
        OvenNames x = Due.village("deed a;soul s needs 1 stays 2;soul t needs 1;loaf old+a*20+said*7+heat+stay;draw 3;heat 1;");
        x.does(0, 0);
        x.says(1, 0);
        // now 0+20+7+1+2; then the seeds 482, 105, heats 2, 5
        due.is("29: 0", x.will(0, 0), 30);
        due.is("29: 1", x.will(0, 1), 30 + 2 + 3);
        due.is("29: 2", x.will(0, 2), 35 + 5 + 4);
        due.is("29: 60", x.will(0, 60), 99);
        due.is("29: 61", x.will(0, 61), -1);
        due.is("29: -1", x.will(0, -1), -1);
        due.is("29: soul 2", x.will(2, 0), -1);
        due.is("29: soul -1", x.will(-1, 0), -1);
        due.is("29: nothing is done", x.about(5), 0);
        x.bread();
        x.bread();
        due.is("29: as told", x.soul(0, 5), 44);
    }

    private static void odds(OvenNames x, int n, int least, int upper, int lower) {
        due.is("30: odds " + n + " " + least + " upper", x.odds(0, n, least, 0), upper);
        due.is("30: odds " + n + " " + least + " lower", x.odds(0, n, least, 1), lower);
    }

    private static void odds() {
        OvenNames x = Due.village("soul s needs 1;loaf heat;heat 3;draw 7;");
        odds(x, 0, 3, 1, 1);
        odds(x, 0, 4, 0, 1);
        odds(x, 1, 0, 1, 1);
        odds(x, 1, 4, 3, 5);
        odds(x, 1, 9, 1, 10);
        odds(x, 1, 10, 0, 1);
        odds(x, 6, 5, 1, 2);
        OvenNames y = Due.village("soul s needs 1;loaf old+heat;");
        // the sum of six heats, each of 0 .. 9
        odds(y, 6, 54, 1, 1000000);
        odds(y, 6, 53, 7, 1000000);
        odds(y, 2, 17, 3, 100);
        odds(y, 2, 9, 11, 20);
        OvenNames z = Due.village("deed a;soul s needs 1;loaf a*5+old+(heat=stay);");
        z.does(0, 0);
        odds(z, 2, 6, 1, 1);
        odds(z, 2, 7, 19, 100);
        odds(z, 2, 8, 1, 100);
        OvenNames w = Due.village("soul s needs 1 stays 96;soul t needs 1;loaf stay*10+heat-970;");
        // stay is 98 behind two of them, and 99 at most behind more
        odds(w, 2, 13, 7, 10);
        odds(w, 3, 21, 9, 10);
        odds(w, 4, 21, 9, 10);
        due.is("30: soul 1", w.odds(1, 2, 1, 1), 1);
        due.is("30: n 7", x.odds(0, 7, 1, 0), -1);
        due.is("30: n -1", x.odds(0, -1, 1, 0), -1);
        due.is("30: part 2", x.odds(0, 1, 1, 2), -1);
        due.is("30: part -1", x.odds(0, 1, 1, -1), -1);
        due.is("30: soul 1", x.odds(1, 1, 1, 0), -1);
        due.is("30: soul -1", x.odds(-1, 1, 1, 0), -1);
    }

    private static void soonest() {
        OvenNames x = Due.village("soul s needs 1 stays 3;loaf stay;");
        due.is("31: now", x.soonest(0, 3), 0);
        due.is("31: 4", x.soonest(0, 4), 1);
        due.is("31: 63", x.soonest(0, 63), 60);
        due.is("31: 64", x.soonest(0, 64), -1);
        due.is("31: soul 1", x.soonest(1, 0), -1);
        due.is("31: soul -1", x.soonest(-1, 0), -1);
        OvenNames y = Due.village("deed a;soul s needs 1 stays 3;loaf a*9+old/2;");
        y.does(0, 0);
        due.is("31: 5", y.soonest(0, 5), 0);
        y.bread();
        due.is("31: 5 no more", y.soonest(0, 5), -1);
    }

    private static void lies() {
        OvenNames x = Due.village(THREE);
        due.is("32: nothing", x.lies(0), -2);
        x.richest();
        due.is("32: -1", x.lies(-1), -2);
        due.is("32: 3", x.lies(3), -2);
        x.bread();
        x.undo();
        x.image(0);
        x.back(0);
        x.silent();
        due.is("32: it stays", x.about(13), 3);
        x.feeds(8);
        due.is("32: nothing", x.lies(0), -2);
    }

    private static void reports() {
        OvenNames x = Due.village(THREE);
        due.is("33: first", x.report(0, 0, 0, 0), 0);
        due.is("33: second", x.report(99, 99, 9, 99), 1);
        int[][] wrong = {{-1, 0, 0, 0}, {100, 0, 0, 0}, {0, -1, 0, 0}, {0, 100, 0, 0}, {0, 0, -1, 0}, {0, 0, 10, 0},
            {0, 0, 0, -1}, {0, 0, 0, 100}};
        for (int[] each : wrong) {
            due.is("33: wrong", x.report(each[0], each[1], each[2], each[3]), -1);
        }
        due.is("33: reports", x.about(9), 2);
        due.yes("34: untell", x.untell(0));
        due.no("34: twice", x.untell(0));
        due.no("34: 2", x.untell(2));
        due.no("34: -1", x.untell(-1));
        due.is("33: reports", x.about(9), 2);
        for (int i = 2; i < 30; i++) {
            due.is("33: more", x.report(0, 0, 0, 6), i);
        }
        due.is("33: 30", x.report(0, 0, 0, 6), -1);
        due.is("33: reports", x.about(9), 30);
        due.no("34: 30", x.untell(30));
        due.yes("34: 29", x.untell(29));
    }

    private static void later() {
        OvenNames x = new OvenNames();
        due.is("35: 0", x.later(0), 0);
        due.is("35: 1000", x.later(1000), 1000);
        due.is("35: 1001", x.later(1001), -1);
        due.is("35: -1", x.later(-1), -1);
        for (int i = 2; i <= 99; i++) {
            x.later(1000);
        }
        due.is("35: 999", x.later(999), 99999);
        due.is("35: above", x.later(2), -1);
        due.is("35: the last", x.later(1), 100000);
        due.is("35: above", x.later(1), -1);
        due.is("35: 0", x.later(0), 100000);
        due.is("43: time", x.about(10), 100000);
    }

    private static void fitSetsSure() {
        OvenNames x = Due.village("deed a;deed b;deed c;soul s needs 1;loaf a*3+b*2+c+stay+old*2+heat+said*50;");
        x.says(0, 0);
        due.is("36: all", x.fit(0), 8);
        due.is("37: all", x.sets(0), 255);
        x.later(5);
        due.is("33: report", x.report(1, 2, 3, 11), 0);
        due.is("37: before", x.sets(4), 255);
        due.is("37: now", x.sets(5), (1 << 1) | (1 << 6));
        due.is("36: now", x.fit(5), 2);
        due.is("37: later", x.sets(1000), (1 << 1) | (1 << 6));
        due.is("38: some", x.sure(0, 5), -2);
        x.later(5);
        x.report(0, 0, 0, 6);
        due.is("36: none", x.fit(10), 0);
        due.is("37: none", x.sets(10), 0);
        due.is("38: none", x.sure(0, 10), -1);
        x.later(1);
        x.untell(0);
        due.is("36: as known at 10", x.fit(10), 0);
        due.is("37: as known at 11", x.sets(11), 1 << 7);
        due.is("38: in all", x.sure(2, 11), 1);
        x.untell(1);
        x.report(0, 0, 0, 0);
        due.is("38: in none", x.sure(2, 11), 0);
        due.is("37: the empty set", x.sets(11), 1);
        due.is("38: deed 3", x.sure(3, 11), -1);
        due.is("38: deed -1", x.sure(-1, 11), -1);
        due.is("36: k below 0", x.fit(-7), 8);
        // told and untold at one time: never known
        x.later(1);
        x.report(0, 0, 0, 99);
        x.untell(3);
        due.is("36: at once untold", x.fit(12), 1);
        due.is("36: at once untold", x.fit(13), 1);
        OvenNames y = Due.village("deed a;deed b;deed c;deed d;deed e;");
        due.is("36: 32 sets", y.fit(0), 32);
        due.is("37: 32 sets", y.sets(0), -1);
        y.report(0, 0, 0, 10);
        due.is("36: 32 sets", y.fit(0), 32);
        y.report(0, 0, 0, 9);
        due.is("36: no set", y.fit(0), 0);
    }

    private static void ask() {
        OvenNames x = Due.village("deed a;deed b;deed c;loaf (heat=2)*a+(heat=4)*(a+b*2)"
                + "+(heat=7 and stay=1 or heat=8 and old=5)*(a+b*2+c*4);");
        due.is("39: heat", x.ask(0, 0, 0, 0), 4);
        due.is("39: left", x.ask(0, 0, 1, 0), 2);
        due.is("39: heat by stay", x.ask(1, 0, 0, 0), 7);
        due.is("39: left by stay", x.ask(1, 0, 1, 0), 1);
        due.is("39: heat by old", x.ask(0, 5, 0, 0), 8);
        due.is("39: of like ones", x.ask(1, 5, 0, 0), 7);
        x.report(0, 0, 4, 0);
        due.is("39: heat of what is left", x.ask(0, 0, 0, 0), 0);
        due.is("39: left of what is left", x.ask(0, 0, 1, 0), 2);
        due.is("39: as known before", x.ask(0, 0, 0, -1), 4);
        int[][] wrong = {{-1, 0, 0}, {100, 0, 0}, {0, -1, 0}, {0, 100, 0}, {0, 0, 2}, {0, 0, -1}};
        for (int[] each : wrong) {
            due.is("39: wrong", x.ask(each[0], each[1], each[2], 0), -1);
        }
        due.is("39: 99", x.ask(99, 99, 1, 0), 2);
        OvenNames hot = Due.village("deed a;loaf (heat=9)*a*(old=1)+(heat>9)*a;");
        due.is("39: no heat above 9", hot.ask(0, 0, 1, 0), 2);
        due.is("39: no heat above 9", hot.ask(0, 0, 0, 0), 0);
        due.is("39: heat 9", hot.ask(0, 1, 0, 0), 9);
        x.report(0, 0, 0, 77);
        due.is("39: none fits", x.ask(0, 0, 0, 0), -1);
    }

    private static void course() {
        OvenNames x = Due.village("deed a;deed b;deed c;loaf (heat=2)*a+(heat=4)*b+(heat=6)*c;");
        due.is("40: loaves", x.course(0, 0), 3);
        due.is("40: heat", x.course(1, 0), 2);
        x.report(0, 0, 2, 1);
        due.is("40: loaves", x.course(0, 0), 2);
        due.is("40: heat", x.course(1, 0), 4);
        x.report(0, 0, 4, 1);
        x.report(0, 0, 6, 1);
        due.is("40: known", x.course(0, 0), 0);
        due.is("40: known", x.course(1, 0), -1);
        x.report(0, 0, 6, 0);
        due.is("40: none fits", x.course(0, 0), -1);
        due.is("40: what 2", x.course(2, 0), -1);
        due.is("40: what -1", x.course(-1, -1), -1);
        OvenNames first = Due.village("deed a;deed b;loaf (heat=0)*a+(heat=1)*b;");
        due.is("40: heat 0 counts", first.course(0, 0), 2);
        due.is("40: heat 0 counts", first.course(1, 0), 0);
        OvenNames last = Due.village("deed a;deed b;loaf (heat=9)*(a+b*2)+(heat<9)*a;");
        due.is("40: heat 9 counts", last.course(0, 0), 1);
        due.is("40: heat 9 counts", last.course(1, 0), 9);
        // what came tells which heat is next: by 3, a tells whether 5 or 8 tells b
        OvenNames y = Due.village("deed a;deed b;loaf (heat=3)*a+(heat=5)*(a and b)+(heat=8)*(b>a);");
        due.is("40: by what came", y.course(0, 0), 2);
        due.is("40: heat", y.course(1, 0), 3);
        OvenNames z = Due.village("deed a;deed b;loaf a;");
        due.is("40: can't be known", z.course(0, 0), -1);
        due.is("40: can't be known", z.course(1, 0), -1);
        OvenNames many = Due.village("deed a;deed b;deed c;deed d;loaf a+b*2+c*4+d*8;");
        due.is("40: of 16", many.course(0, 0), -2);
        due.is("40: of 16", many.course(1, 0), -2);
        OvenNames ten = Due.village("deed a;deed b;deed c;deed d;loaf (a+b*2+c*4+d*8)*(heat=9)"
                + "+(heat=0)*(not d or not (b or c))+(heat=1)*(not d or not a and not (b and c));");
        ten.report(0, 0, 0, 1);
        due.is("40: of 10", ten.course(0, 0), 1);
        due.is("40: of 10", ten.course(1, 0), 9);
        ten.later(1);
        ten.untell(0);
        ten.report(0, 0, 1, 1);
        due.is("40: of 11", ten.course(0, 1), -2);
        due.is("40: of 10, as known before", ten.course(0, 0), 1);
        OvenNames five = Due.village("deed a;deed b;deed c;deed d;deed e;loaf (heat=1)*(a+b+c)+(heat=2)*(d+e*2);");
        five.report(0, 0, 1, 0);
        due.is("40: five deeds", five.course(0, 0), 1);
        due.is("40: five deeds", five.course(1, 0), 2);
        due.is("37: five deeds", five.sets(0), 1 | 1 << 8 | 1 << 16 | 1 << 24);
        OvenNames hot = Due.village("deed a;loaf (heat>9)*a;");
        due.is("40: no heat above 9", hot.course(0, 0), -1);
        // stay and old are 0
        OvenNames w = Due.village("deed a;deed b;loaf a+stay*b+old*b;");
        due.is("40: stay and old are 0", w.course(0, 0), -1);
    }

    private static void imageAndBack() {
        OvenNames x = Due.village(THREE);
        due.is("42: nothing kept", x.back(0), -1);
        x.does(0, 1);
        x.bread();
        x.does(2, 0);
        x.says(2, 1);
        x.feud(1, 2);
        due.is("41: image", x.image(0), 1);
        due.is("41: acts stay", x.about(7), 5);
        due.is("41: box 3", x.image(3), -1);
        due.is("41: box -1", x.image(-1), -1);
        x.bread();
        x.feud(0, 1);
        due.is("41: image", x.image(2), 2);
        x.undo();
        due.is("42: back", x.back(0), 1);
        int[][] want = {{5, 0, -1, 1, 14}, {8, 0, -1, 4, 9}, {0, 1, 1, 1, 6}};
        for (int soul = 0; soul < 3; soul++) {
            for (int what = 0; what < 5; what++) {
                due.is("42: soul(" + soul + ", " + what + ")", x.soul(soul, what), want[soul][what]);
            }
        }
        due.is("42: fed", x.soul(2, 7), 1);
        due.is("42: shamed", x.soul(2, 8), 0);
        due.is("42: feuds", x.about(2), 2);
        due.is("42: heat", x.about(3), 4);
        due.is("42: seed", x.about(4), 304);
        due.is("42: no acts are kept", x.about(7), 0);
        due.is("42: no acts are kept", x.about(8), 0);
        due.no("42: undo", x.undo());
        due.no("42: redo", x.redo());
        x.does(0, 0);
        due.yes("42: undo of a new act", x.undo());
        due.is("42: week", x.about(5), 1);
        due.is("42: the other box", x.back(2), 2);
        due.is("42: feuds", x.about(2), 1);
        due.is("42: shamed", x.soul(2, 8), 1);
        due.is("42: again", x.back(0), 1);
        due.is("42: box 1", x.back(1), -1);
        due.is("42: box 3", x.back(3), -1);
        due.is("42: box -1", x.back(-1), -1);
        due.is("41: over the old one", x.image(2), 1);
        x.bread();
        due.is("42: over the old one", x.back(2), 1);
    }

    private static void about() {
        OvenNames x = Due.village(THREE);
        x.later(12);
        x.report(0, 0, 0, 6);
        x.says(0, 1);
        x.says(1, 1);
        x.does(2, 0);
        x.undo();
        x.feeds(0);
        x.feed(0, 0, 0, 0, 0);
        int[] want = {3, 2, 1, 2, 9, 0, 2, 2, 1, 1, 12, 20, 6, 3};
        for (int what = 0; what < want.length; what++) {
            due.is("43: about(" + what + ")", x.about(what), want[what]);
        }
        due.is("43: about(14)", x.about(14), -1);
        due.is("43: about(-1)", x.about(-1), -1);
        due.is("NONE", OvenNames.NONE, -1);
    }
}
