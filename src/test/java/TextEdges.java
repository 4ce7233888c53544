/** Terms, part 1: the text of a VILLAGE, its TOKENS, its limits, its FAULTS. */
final class TextEdges {
    private static final String FIVE_DEEDS = "deed a;deed b;deed c;deed d;deed e;";
    private static final String FIVE_SOULS = "soul a needs 1;soul b needs 2;soul c needs 3;soul d needs 4;soul e needs 5;";
    private static final String TEN_FEUDS = "feud a with b;feud a with c;feud a with d;feud a with e;feud b with c;"
            + "feud b with d;feud b with e;feud c with d;feud c with e;feud d with e;";
    private static final String SIGNS = ";()<>=+-*/%";
    private static final String WORDS = "deed soul needs stays feud with loaf heat draw or and not stay old said";

    private TextEdges() {
    }

    static void addTo(Edges edges) {
        edges.terms(1, "A VILLAGE is a text of at most 1,600 bytes (empty at first)", TextEdges::size);
        edges.terms(1, "village = {line}", TextEdges::lines);
        edges.terms(1, "line = deed NAME ;  |  soul NAME needs N [stays N] ;  |  feud NAME with NAME ;  |  loaf e ;"
                + "  |  heat N ;  |  draw N ;.", TextEdges::eachLineCutShort);
        edges.terms(1, "e = both {or both}.  both = one {and one}.  one = not one | sum [(< | > | =) sum].",
                TextEdges::oneRelation);
        edges.terms(1, "sum = term {(+ | -) term}.  term = unit {(* | / | %) unit}.", TextEdges::sums);
        edges.terms(1, "unit = N | NAME | stay | old | heat | said | ( e ).", TextEdges::units);
        edges.terms(1, "words (a .. z, 8 at most)", TextEdges::words);
        edges.terms(1, "N (1 to 4 digits)", TextEdges::digits);
        edges.terms(1, "signs ; ( ) < > = + - * / %", TextEdges::signs);
        edges.terms(1, "blanks (32, 10) part them or not", TextEdges::blanks);
        edges.terms(1, "each is as long as can be", TextEdges::asLongAsCanBe);
        edges.terms(1, "no letter directly behind an N", TextEdges::letterBehindNumber);
        edges.terms(1, "Words that stand for themselves here are no NAMES", TextEdges::ownWords);
        edges.terms(1, "At most 5 DEEDS", TextEdges::deeds);
        edges.terms(1, "5 SOULS", TextEdges::souls);
        edges.terms(1, "(needs, stays 0 .. 99; stays 0 if not told)", TextEdges::needsAndStays);
        edges.terms(1, "10 FEUDS", TextEdges::feuds);
        edges.terms(1, "of two unlike SOULS told ahead", TextEdges::feudsOfWhom);
        edges.terms(1, "each two once in whichever order", TextEdges::feudsOnce);
        edges.terms(1, "numbered as told, each sort by itself", TextEdges::numbered);
        edges.terms(1, "loaf (its NAMES are those of DEEDS told ahead)", TextEdges::deedsAhead);
        edges.terms(1, "heat (0 .. 9; 0)", TextEdges::heat);
        edges.terms(1, "draw (0 .. 999; 0)", TextEdges::draw);
        edges.terms(1, "once each", TextEdges::onceEach);
        edges.terms(1, "60 units in all, 30 in one e", TextEdges::thirtyUnits);
        edges.terms(1, "(a unit ( e ), or a one behind not, within 6 others at most)", TextEdges::withinSix);
        edges.terms(1, "FAULTS, the first by its place", TextEdges::firstByPlace);
        edges.terms(1, "(bytes from 0; the end: the text's length)", TextEdges::places);
        edges.terms(1, "at one place the least", TextEdges::leastAtOnePlace);
        edges.terms(1, "1 no TOKEN", TextEdges::noToken);
        edges.terms(1, "2 one that can't stand there", TextEdges::cantStand);
        edges.terms(1, "(one of a sort too many or a second time: at the line's first word", TextEdges::tooManyOfASort);
        edges.terms(1, "a unit too many, what is within 7 others: at its first TOKEN, or the not)", TextEdges::tooDeep);
        edges.terms(1, "3 a NAME told already (of its sort)", TextEdges::toldAlready);
        edges.terms(1, "a FEUD of one with himself, one told already (at the second NAME)", TextEdges::feudToldAlready);
        edges.terms(1, "4 a number that can't be", TextEdges::numberThatCantBe);
        edges.terms(1, "5 a NAME that nothing of the sort has", TextEdges::unknown);
    }

    /** The text has that FAULT there, and what was told before stays. */
    private static void fault(Due due, String text, int kind, int place) {
        OvenNames x = Due.village("soul older needs 9;");
        Due.put(x, text);
        due.is("village() of " + text, x.village(), -1);
        due.is("fault(0) of " + text, x.fault(0), kind);
        due.is("fault(1) of " + text, x.fault(1), place);
        due.is("behind " + text + " needs", x.soul(0, 0), 9);
    }

    private static OvenNames good(Due due, String text, int souls) {
        OvenNames x = new OvenNames();
        Due.put(x, text);
        due.is("village() of " + text, x.village(), souls);
        due.is("fault(0) of " + text, x.fault(0), 0);
        due.is("fault(1) of " + text, x.fault(1), -1);
        return x;
    }

    private static void loaf(Due due, String e, int want) {
        due.is("LOAF of " + e, good(due, "deed x;soul s needs 1;loaf " + e + ";", 1).soul(0, 5), want);
    }

    private static void size(Due due) {
        good(due, "", 0);
        String filled = " ".repeat(1600 - FIVE_SOULS.length()) + FIVE_SOULS;
        OvenNames x = good(due, filled, 5);
        due.is("the last byte counts", x.soul(4, 0), 5);
        fault(due, filled.substring(1) + "$", 1, 1599);
        fault(due, filled.substring(5) + "heat ", 2, 1600);
        OvenNames y = new OvenNames();
        due.is("empty at first: SOULS", y.about(0), 0);
        due.is("empty at first: village()", y.village(), 0);
    }

    private static void lines(Due due) {
        due.is("no line", good(due, "", 0).about(1), 0);
        due.is("no line, but blanks", good(due, " \n ", 0).about(1), 0);
        due.is("one", good(due, "deed a;", 0).about(1), 1);
        fault(due, ";", 2, 0);
        fault(due, "deed a;;", 2, 7);
        // as many lines as a text may have
        StringBuilder all = new StringBuilder(FIVE_DEEDS + FIVE_SOULS + TEN_FEUDS + "loaf 1;heat 1;draw 1;");
        OvenNames x = good(due, all.toString(), 5);
        due.is("FEUDS", x.about(2), 10);
        fault(due, all + "x", 2, all.length());
    }

    /** A line that ends behind any of its TOKENS but the last has a FAULT at the text's end. */
    private static void eachLineCutShort(Due due) {
        String ahead = "soul p needs 1;soul q needs 1;";
        String[] lines = {"deed a ;", "soul a needs 1 ;", "soul a needs 1 stays 2 ;", "feud p with q ;", "loaf 1 ;",
            "heat 1 ;", "draw 1 ;"};
        for (String line : lines) {
            good(due, ahead + line, line.startsWith("soul") ? 3 : 2);
            String[] tokens = line.split(" ");
            StringBuilder part = new StringBuilder(ahead);
            for (int i = 0; i < tokens.length - 1; i++) {
                part.append(i == 0 ? "" : " ").append(tokens[i]);
                fault(due, part.toString(), 2, part.length());
                fault(due, part + " );", 2, part.length() + 1);
            }
        }
    }

    private static void oneRelation(Due due) {
        loaf(due, "1<2", 1);
        for (String one : new String[] {"<", ">", "="}) {
            for (String other : new String[] {"<", ">", "="}) {
                fault(due, "loaf 1" + one + "2" + other + "3;", 2, 8);
                loaf(due, "(1" + one + "2)" + other + "3", relate(other, relate(one, 1, 2), 3));
                loaf(due, "1" + one + "2 and 1" + other + "2", relate(one, 1, 2) & relate(other, 1, 2));
            }
        }
        fault(due, "loaf not 1<2<3;", 2, 12);
        fault(due, "loaf 0<not 1;", 2, 7);
        fault(due, "loaf 0+not 1;", 2, 7);
        fault(due, "loaf 0*not 1;", 2, 7);
        // and binds tighter than or, not tighter than and, a relation tighter than not
        loaf(due, "1 or 0 and 0", 1);
        loaf(due, "0 and 0 or 1", 1);
        loaf(due, "not 0 and 0", 0);
        loaf(due, "not 1 or 1", 1);
        loaf(due, "not 1=2", 1);
        loaf(due, "0<(not 0)", 1);
    }

    private static int relate(String sign, int one, int other) {
        boolean isSo = sign.equals("<") ? one < other : sign.equals(">") ? one > other : one == other;
        return isSo ? 1 : 0;
    }

    private static void sums(Due due) {
        loaf(due, "7", 7);
        loaf(due, "9-3-2", 4);
        loaf(due, "60/5/3", 4);
        loaf(due, "60/5*3", 36);
        loaf(due, "2+3*4", 14);
        loaf(due, "20-3*4", 8);
        loaf(due, "50+60/7%5", 53);
        loaf(due, "60%7*5", 20);
        loaf(due, "60%9/4", 1);
        loaf(due, "5*7%4", 3);
        loaf(due, "5*7/4", 8);
        loaf(due, "60%50%7", 3);
        loaf(due, "9+3-2", 10);
        loaf(due, "9-3+2", 8);
        for (String sign : new String[] {"+", "-", "*", "/", "%"}) {
            fault(due, "loaf " + sign + "1;", 2, 5);
            fault(due, "loaf 1" + sign + ";", 2, 7);
            fault(due, "loaf 1" + sign + sign + "1;", 2, 7);
        }
    }

    private static void units(Due due) {
        String[] standing = {"5", "x", "stay", "old", "heat", "said", "(5)"};
        for (String unit : standing) {
            due.is("units of " + unit, good(due, "deed x;loaf " + unit + ";", 0).about(12), unit.equals("(5)") ? 2 : 1);
        }
        for (String word : "deed soul needs stays feud with loaf draw or and".split(" ")) {
            fault(due, "loaf " + word + ";", 2, 5);
            fault(due, "loaf 1+" + word + ";", 2, 7);
        }
        fault(due, "loaf ();", 2, 6);
        fault(due, "loaf (1;", 2, 7);
        fault(due, "loaf 1);", 2, 6);
        fault(due, "loaf (1));", 2, 8);
        fault(due, "loaf 1(2);", 2, 6);
        fault(due, "loaf (1)2;", 2, 8);
    }

    private static void words(Due due) {
        OvenNames x = good(due, "deed a;deed z;deed abcdefgh;deed zzzzzzzz;soul aaaaaaaa needs 1;soul q needs 1;"
                + "loaf a+z*2+abcdefgh*4+zzzzzzzz*8;", 2);
        due.is("four DEEDS of unlike NAMES", x.makes(0, 15), 1 << 15);
        fault(due, "deed abcdefghi;", 1, 5);
        fault(due, "deed zzzzzzzzz;", 1, 5);
        fault(due, "soul abcdefghi needs 1;", 1, 5);
        fault(due, "loaf abcdefghi;", 1, 5);
        fault(due, "abcdefghi", 1, 0);
        fault(due, "abcdefgh", 2, 0);
        // the bytes next to a and z, and the great letters
        for (char sign : new char[] {'`', '{', 'A', 'Z', '_', '@', '['}) {
            fault(due, "deed " + sign + ";", 1, 5);
            fault(due, "deed a" + sign + ";", 1, 6);
        }
        // NAMES are alike only if all their letters are
        due.is("NAMES of one beginning", good(due, "deed abcdefgh;deed abcdefg;deed bcdefgh;", 0).about(1), 3);
    }

    private static void digits(Due due) {
        loaf(due, "0", 0);
        loaf(due, "9", 9);
        loaf(due, "0000", 0);
        loaf(due, "0099", 99);
        loaf(due, "9999-9990", 9);
        loaf(due, "9999=9999", 1);
        fault(due, "loaf 00000;", 1, 5);
        fault(due, "loaf 10000;", 1, 5);
        fault(due, "loaf 1+00001;", 1, 7);
        fault(due, "heat 00001;", 1, 5);
        due.is("heat 0001", good(due, "heat 0001;", 0).about(3), 1);
        fault(due, "loaf 99999999999999999999;", 1, 5);
        // the bytes next to 0 and 9
        fault(due, "loaf :;", 1, 5);
        fault(due, "loaf /;", 2, 5);
        fault(due, "loaf 1:2;", 1, 6);
    }

    /** Each of the 256 bytes alone: a blank, a TOKEN that can't begin a line, or no TOKEN. */
    private static void signs(Due due) {
        for (int each = 0; each < 256; each++) {
            String text = String.valueOf((char) each);
            boolean isToken = each >= 'a' && each <= 'z' || each >= '0' && each <= '9' || SIGNS.indexOf(each) >= 0;
            if (each == 32 || each == 10) {
                good(due, text, 0);
            } else {
                fault(due, text, isToken ? 2 : 1, 0);
                fault(due, "heat 1;" + text, isToken ? 2 : 1, 7);
            }
        }
    }

    private static void blanks(Due due) {
        OvenNames x = good(due, "\n \ndeed\na\n;soul  a\n needs 7 stays3;loaf(a)+2;\n", 1);
        due.is("needs", x.soul(0, 0), 7);
        due.is("stays", x.soul(0, 3), 3);
        due.is("loaf", x.soul(0, 5), 2);
        for (int each : new int[] {0, 9, 11, 12, 13, 31, 127, 128, 160, 255}) {
            fault(due, "deed" + (char) each + "a;", 1, 4);
        }
        // a blank within a word or a number makes two of it
        fault(due, "de ed a;", 2, 0);
        fault(due, "heat 0 1;", 2, 7);
        fault(due, "deed a b;", 2, 7);
    }

    private static void asLongAsCanBe(Due due) {
        fault(due, "deeda;", 2, 0);
        fault(due, "deed abcd efgh;", 2, 10);
        fault(due, "soul a needs1 stays 1stays;", 1, 20);
        due.is("12 is no 1", good(due, "draw 12;", 0).about(4), 12);
        // a digit behind a word begins an N
        due.is("a word and an N", good(due, "heat7;", 0).about(3), 7);
        fault(due, "deed a1;", 2, 6);
        fault(due, "loaf notx;", 5, 5);
        fault(due, "loaf 1 orx 1;", 2, 7);
    }

    private static void letterBehindNumber(Due due) {
        fault(due, "heat 1a;", 1, 5);
        fault(due, "heat 1z;", 1, 5);
        fault(due, "loaf 1or 1;", 1, 5);
        fault(due, "loaf 1+1and 1;", 1, 7);
        fault(due, "soul a needs 1stays 1;", 1, 13);
        loaf(due, "0 or 1", 1);
        loaf(due, "(0)or 1", 1);
        good(due, "heat 1 ;", 0);
        good(due, "heat 1\n;", 0);
        fault(due, "heat 1A;", 1, 6);
    }

    private static void ownWords(Due due) {
        for (String word : WORDS.split(" ")) {
            fault(due, "deed " + word + ";", 2, 5);
            fault(due, "soul " + word + " needs 1;", 2, 5);
            fault(due, "soul a needs 1;feud " + word + " with a;", 2, 20);
            fault(due, "soul a needs 1;feud a with " + word + ";", 2, 27);
        }
        // words of the grammar and of the document that do not stand for themselves are
        for (String word : "e line both one sum term unit village name none bread say stayed olds so an no".split(" ")) {
            good(due, "deed " + word + ";soul " + word + " needs 1;loaf " + word + ";", 1);
        }
    }

    private static void deeds(Due due) {
        due.is("5 DEEDS", good(due, FIVE_DEEDS, 0).about(1), 5);
        fault(due, FIVE_DEEDS + "deed f;", 2, 35);
        due.is("no DEED", good(due, "soul a needs 1;", 1).about(1), 0);
    }

    private static void souls(Due due) {
        due.is("5 SOULS", good(due, FIVE_SOULS, 5).about(0), 5);
        fault(due, FIVE_SOULS + "soul f needs 1;", 2, FIVE_SOULS.length());
        due.is("no SOUL", good(due, FIVE_DEEDS, 0).about(0), 0);
        due.is("5 of each sort", good(due, FIVE_DEEDS + FIVE_SOULS, 5).about(1), 5);
    }

    private static void needsAndStays(Due due) {
        for (int number : new int[] {0, 1, 98, 99}) {
            due.is("needs", good(due, "soul a needs " + number + ";", 1).soul(0, 0), number);
            due.is("stays", good(due, "soul a needs 1 stays " + number + ";", 1).soul(0, 3), number);
        }
        for (int number : new int[] {100, 101, 999, 9999}) {
            fault(due, "soul a needs " + number + ";", 4, 13);
            fault(due, "soul a needs 1 stays " + number + ";", 4, 21);
        }
        fault(due, "soul a needs -1;", 2, 13);
        fault(due, "soul a needs 1 stays -1;", 2, 21);
        OvenNames x = good(due, "soul a needs 1 stays 7;soul b needs 2;", 2);
        due.is("stays, not told", x.soul(1, 3), 0);
        Due.put(x, "soul a needs 1;soul b needs 2 stays 4;");
        due.is("told anew", x.village(), 2);
        due.is("stays, not told any more", x.soul(0, 3), 0);
    }

    private static void feuds(Due due) {
        OvenNames x = good(due, FIVE_SOULS + TEN_FEUDS, 5);
        due.is("10 FEUDS", x.about(2), 10);
        for (int soul = 0; soul < 5; soul++) {
            due.is("with all others", x.soul(soul, 9), 31 & ~(1 << soul));
        }
        int length = (FIVE_SOULS + TEN_FEUDS).length();
        fault(due, FIVE_SOULS + TEN_FEUDS + "feud a with b;", 2, length);
        fault(due, FIVE_SOULS + TEN_FEUDS + "feud", 2, length);
        due.is("no FEUD", good(due, FIVE_SOULS, 5).about(2), 0);
        String nine = TEN_FEUDS.substring(0, TEN_FEUDS.length() - 14);
        due.is("9 FEUDS", good(due, FIVE_SOULS + nine, 5).about(2), 9);
        fault(due, FIVE_SOULS + nine + "feud a with b;", 3, (FIVE_SOULS + nine).length() + 12);
        // as many in the next text
        Due.put(x, FIVE_SOULS + TEN_FEUDS);
        due.is("10 FEUDS told anew", x.village(), 5);
    }

    private static void feudsOfWhom(Due due) {
        fault(due, "feud a with b;soul a needs 1;soul b needs 1;", 5, 5);
        fault(due, "soul a needs 1;feud a with b;soul b needs 1;", 5, 27);
        fault(due, "soul b needs 1;feud a with b;soul a needs 1;", 5, 20);
        fault(due, "soul a needs 1;feud a with a;", 3, 27);
        fault(due, FIVE_SOULS + "feud e with e;", 3, FIVE_SOULS.length() + 12);
        due.is("of the last two", good(due, FIVE_SOULS + "feud e with d;", 5).soul(4, 9), 8);
    }

    private static void feudsOnce(Due due) {
        String two = "soul a needs 1;soul b needs 1;feud a with b;";
        fault(due, two + "feud a with b;", 3, 56);
        fault(due, two + "feud b with a;", 3, 56);
        due.is("once", good(due, two, 2).about(2), 1);
        due.is("once, in the other order", good(due, two.replace("a with b", "b with a"), 2).soul(0, 9), 2);
    }

    private static void numbered(Due due) {
        OvenNames x = good(due, "deed q;soul z needs 3;deed p;soul q needs 4;soul a needs 5;deed z;feud a with z;"
                + "loaf q+p*2+z*4;", 3);
        for (int soul = 0; soul < 3; soul++) {
            due.is("needs", x.soul(soul, 0), 3 + soul);
        }
        due.is("FEUD", x.soul(2, 9), 1);
        for (int deed = 0; deed < 3; deed++) {
            due.is("the set of one DEED", x.makes(0, 1 << deed), 1 << (1 << deed));
        }
    }

    private static void deedsAhead(Due due) {
        fault(due, "loaf a;deed a;", 5, 5);
        fault(due, "deed a;loaf a+b;deed b;", 5, 14);
        fault(due, "soul a needs 1;loaf a;", 5, 20);
        due.is("the last of five", good(due, FIVE_DEEDS + "soul s needs 1;loaf e;", 1).makes(0, 1), 0xffff0000);
        due.is("DEEDS behind the loaf", good(due, "deed a;loaf a;deed b;soul s needs 1;", 1).makes(0, 1), 10);
    }

    private static void heat(Due due) {
        for (int number = 0; number <= 9; number++) {
            due.is("heat", good(due, "heat " + number + ";", 0).about(3), number);
        }
        for (String number : new String[] {"10", "11", "99", "0010", "9999"}) {
            fault(due, "heat " + number + ";", 4, 5);
        }
        OvenNames x = good(due, "heat 9;", 0);
        due.is("village() of nothing", x.village(), 0);
        due.is("not told", x.about(3), 0);
        due.is("0 by any draw", good(due, "draw 7;", 0).about(3), 0);
    }

    private static void draw(Due due) {
        for (int number : new int[] {0, 1, 998, 999}) {
            due.is("draw", good(due, "draw " + number + ";", 0).about(4), number);
        }
        for (String number : new String[] {"1000", "1001", "9999"}) {
            fault(due, "draw " + number + ";", 4, 5);
        }
        OvenNames x = good(due, "draw 999;", 0);
        due.is("village() of nothing", x.village(), 0);
        due.is("not told", x.about(4), 0);
    }

    private static void onceEach(Due due) {
        for (String line : new String[] {"loaf 1;", "heat 1;", "draw 1;"}) {
            good(due, line, 0);
            fault(due, line + line, 2, 7);
            fault(due, line + "deed a;" + line, 2, 14);
            // a number, a unit behind that would be wrong as well
            fault(due, line + line.replace("1", "$"), 2, 7);
        }
        good(due, "loaf 1;heat 1;draw 1;", 0);
        good(due, "draw 1;heat 1;loaf 1;", 0);
        // once more in the next text
        OvenNames x = good(due, "loaf 1;heat 1;draw 1;", 0);
        Due.put(x, "loaf 2;heat 2;draw 2;");
        due.is("told anew", x.village(), 0);
        due.is("told anew: heat", x.about(3), 2);
    }

    private static String plus(int ones) {
        return "1" + "+1".repeat(ones - 1);
    }

    private static void thirtyUnits(Due due) {
        for (int count : new int[] {1, 29, 30}) {
            OvenNames x = good(due, "soul s needs 1;loaf " + plus(count) + ";", 1);
            due.is("units", x.about(12), count);
            due.is("all of them count", x.soul(0, 5), count);
        }
        fault(due, "loaf " + plus(31) + ";", 2, 65);
        fault(due, "loaf " + plus(40) + ";", 2, 65);
        // each ( e ) is a unit, and those in it are units
        due.is("units", good(due, "loaf (" + plus(29) + ");", 0).about(12), 30);
        fault(due, "loaf (" + plus(30) + ");", 2, 64);
        due.is("units", good(due, "loaf (" + plus(14) + ")+(" + plus(14) + ");", 0).about(12), 30);
        fault(due, "loaf (" + plus(14) + ")+(" + plus(15) + ");", 2, 64);
        fault(due, "loaf " + plus(30) + "+(1);", 2, 65);
        due.is("the last may be ( e )", good(due, "loaf " + plus(28) + "+(1);", 0).about(12), 30);
        fault(due, "loaf " + plus(29) + "+(1);", 2, 64);
        due.is("no loaf", good(due, "heat 1;", 0).about(12), 0);
        // units with 30 signs of each sort between
        for (String sign : new String[] {"*", "/", "%", "-", " or ", " and "}) {
            due.is("units", good(due, "loaf " + plus(30).replace("+", sign) + ";", 0).about(12), 30);
        }
    }

    private static void withinSix(Due due) {
        // a ( e ) or a not within so many others, for each mixture of 7 of them
        for (int mixture = 0; mixture < 128; mixture++) {
            String seven = opened(mixture, 7);
            String six = opened(mixture, 6);
            loaf(due, seven + "5" + closed(mixture, 7), valueWithin(mixture, 7));
            loaf(due, six + "5" + closed(mixture, 6), valueWithin(mixture, 6));
            fault(due, "loaf " + seven + "(5)" + closed(mixture, 7) + ";", 2, 5 + seven.length());
            fault(due, "loaf " + seven + "not 5" + closed(mixture, 7) + ";", 2, 5 + seven.length());
        }
        // what is not within another does not count
        loaf(due, "(((((((1)))))))+(((((((2)))))))", 3);
        loaf(due, "not not not not not not not 0 and not not not not not not not 0", 1);
        loaf(due, "not not not not not not not 0 or (((((((0)))))))", 1);
        loaf(due, "(((((((1)))))))<2 and not not not not not not not 0", 1);
        loaf(due, "((((((not 0 and not 0 or not 1))))))", 1);
        fault(due, "loaf ((((((not not 1))))));", 2, 15);
        fault(due, "loaf ((((((not 1 and not (1)))))));", 2, 25);
        // a not goes as far as its relation does
        fault(due, "loaf not not not not not not not 1=(2);", 2, 35);
        fault(due, "loaf not not not not not not not 1+(2);", 2, 35);
    }

    private static String opened(int mixture, int levels) {
        StringBuilder text = new StringBuilder();
        for (int i = 0; i < levels; i++) {
            text.append((mixture >> i & 1) == 0 ? "(" : "not ");
        }
        return text.toString();
    }

    private static String closed(int mixture, int levels) {
        return ")".repeat(levels - Integer.bitCount(mixture & ((1 << levels) - 1)));
    }

    private static int valueWithin(int mixture, int levels) {
        int value = 5;
        for (int i = levels - 1; i >= 0; i--) {
            value = (mixture >> i & 1) == 0 ? value : value == 0 ? 1 : 0;
        }
        return value;
    }

    private static void firstByPlace(Due due) {
        String[] faults = {"$", "with ", "deed p;", "heat 10;", "loaf q;"};
        int[] kinds = {1, 2, 3, 4, 5};
        int[] places = {0, 0, 5, 5, 5};
        for (int one = 0; one < faults.length; one++) {
            for (String other : faults) {
                fault(due, "deed p;" + faults[one] + other, kinds[one], 7 + places[one]);
            }
        }
        fault(due, "deed a deed", 2, 7);
        fault(due, "heat 10 $", 4, 5);
        fault(due, "loaf x+$", 5, 5);
    }

    private static void places(Due due) {
        fault(due, "$deed a;", 1, 0);
        fault(due, "x", 2, 0);
        fault(due, "deed a;deed b", 2, 13);
        fault(due, "deed a;deed b \n", 2, 15);
        fault(due, "loaf 1", 2, 6);
        fault(due, "loaf 1 ", 2, 7);
        fault(due, "loaf (1", 2, 7);
        fault(due, " ".repeat(1596) + "deed", 2, 1600);
        fault(due, " ".repeat(1599) + "x", 2, 1599);
        // what stood on the TAPE behind its end is not read
        OvenNames x = new OvenNames();
        Due.put(x, "heat 7;");
        x.end(6);
        due.is("village() of a cut text", x.village(), -1);
        due.is("fault(1) of a cut text", x.fault(1), 6);
        Due.put(x, "loaf 11");
        x.end(4);
        due.is("village() of a cut text", x.village(), -1);
        due.is("fault(1) of a cut text", x.fault(1), 4);
        Due.put(x, "deed abcdefghi");
        x.end(13);
        due.is("village() of a cut word", x.village(), -1);
        due.is("fault(0) of a cut word", x.fault(0), 2);
        Due.put(x, "heat 12345x");
        x.end(9);
        due.is("village() of a cut number", x.village(), -1);
        due.is("fault(0) of a cut number", x.fault(0), 4);
    }

    private static void leastAtOnePlace(Due due) {
        // no TOKEN, and what is no TOKEN can't stand anywhere
        fault(due, "$", 1, 0);
        fault(due, "loaf 1 $", 1, 7);
        fault(due, "loaf " + plus(30) + "+$;", 1, 65);
        fault(due, "heat 10000;", 1, 5);
        fault(due, "loaf (((((((10000)))))));", 1, 12);
        // a unit too many that nothing has
        fault(due, "loaf " + plus(30) + "+x;", 2, 65);
        fault(due, "loaf " + plus(29) + "+x;", 5, 63);
    }

    private static void noToken(Due due) {
        fault(due, "deed a;\t", 1, 7);
        fault(due, "deed ?;", 1, 5);
        fault(due, "deed a?", 1, 6);
        fault(due, "soul ?", 1, 5);
        fault(due, "soul a ?", 1, 7);
        fault(due, "soul a needs ?", 1, 13);
        fault(due, "soul a needs 1 ?", 1, 15);
        fault(due, "soul a needs 1 stays ?", 1, 21);
        fault(due, "feud ?", 1, 5);
        fault(due, "soul a needs 1;feud a ?", 1, 22);
        fault(due, "soul a needs 1;feud a with ?", 1, 27);
        fault(due, "soul a needs 1;soul b needs 1;feud a with b ?", 1, 44);
        fault(due, "heat ?", 1, 5);
        fault(due, "draw ?", 1, 5);
        fault(due, "loaf ?", 1, 5);
        fault(due, "loaf not ?", 1, 9);
        fault(due, "loaf (?", 1, 6);
    }

    private static void cantStand(Due due) {
        fault(due, "needs", 2, 0);
        fault(due, "7", 2, 0);
        fault(due, "deed 7;", 2, 5);
        fault(due, "deed a)", 2, 6);
        fault(due, "soul a stays 1;", 2, 7);
        fault(due, "soul a needs stays 1;", 2, 13);
        fault(due, "soul a needs 1 stays;", 2, 20);
        fault(due, "soul a needs 1 needs 1;", 2, 15);
        fault(due, "soul a needs 1 stays 1 stays 1;", 2, 23);
        fault(due, "soul a needs 1;feud a a;", 2, 22);
        fault(due, "soul a needs 1;feud a with 1;", 2, 27);
        fault(due, "heat a;", 2, 5);
        fault(due, "heat (1);", 2, 5);
        fault(due, "draw 1+1;", 2, 6);
        fault(due, "loaf;", 2, 4);
        fault(due, "loaf 1 1;", 2, 7);
        fault(due, "loaf 1 not 1;", 2, 7);
        fault(due, "loaf or 1;", 2, 5);
        fault(due, "loaf not;", 2, 8);
        fault(due, "loaf not or;", 2, 9);
    }

    private static void tooManyOfASort(Due due) {
        // at the first word, whatever stands behind it
        for (String behind : new String[] {"", " a;", " z;", " $", ";", " soul"}) {
            fault(due, FIVE_DEEDS + " deed" + behind, 2, 36);
            fault(due, FIVE_SOULS + " soul" + behind, 2, FIVE_SOULS.length() + 1);
            fault(due, FIVE_SOULS + TEN_FEUDS + " feud" + behind, 2, (FIVE_SOULS + TEN_FEUDS).length() + 1);
            fault(due, "loaf 1; loaf" + behind, 2, 8);
            fault(due, "heat 1; heat" + behind, 2, 8);
            fault(due, "draw 1; draw" + behind, 2, 8);
        }
    }

    private static void tooDeep(Due due) {
        fault(due, "loaf (((((((((1)))))))));", 2, 12);
        fault(due, "loaf ((((((( (1))))))));", 2, 13);
        fault(due, "loaf not not not not not not not  not 1;", 2, 34);
        fault(due, "loaf 1+(2*(3-(4/(5%(6+(7<(8>(9))))))));", 2, 28);
        fault(due, "loaf ((((((( not", 2, 13);
        fault(due, "loaf (((((((1+(", 2, 14);
        fault(due, "loaf " + plus(30) + "+1;", 2, 65);
        fault(due, "loaf " + plus(30) + "+ (1);", 2, 66);
        // behind 30 units a not may stand still, but nothing behind it
        fault(due, "loaf " + plus(30) + " and not 1;", 2, 73);
    }

    private static void toldAlready(Due due) {
        fault(due, "deed a;deed a;", 3, 12);
        fault(due, "deed a;deed b;deed a;", 3, 19);
        fault(due, "deed abcdefgh;deed abcdefgh;", 3, 19);
        fault(due, "soul a needs 1;soul a needs 2;", 3, 20);
        fault(due, "soul a needs 1;soul b needs 1;soul b", 3, 35);
        fault(due, "deed a;deed b;deed c;deed d;deed d;", 3, 33);
        // another sort, or another text, may have it
        good(due, "deed a;soul a needs 1;", 1);
        good(due, "soul a needs 1;deed a;", 1);
        OvenNames x = good(due, "deed a;soul a needs 1;", 1);
        Due.put(x, "deed a;soul a needs 1;");
        due.is("told anew", x.village(), 1);
        Due.put(x, "deed a;deed a");
        due.is("told twice", x.village(), -1);
        Due.put(x, "deed a;");
        due.is("behind a FAULT", x.village(), 0);
    }

    private static void feudToldAlready(Due due) {
        String two = "soul p needs 1;soul q needs 1;";
        fault(due, two + "feud p with p;", 3, 42);
        fault(due, two + "feud q with q;", 3, 42);
        fault(due, two + "feud p with q;feud p with q;", 3, 56);
        fault(due, two + "feud p with q;feud q with p;", 3, 56);
        fault(due, two + "feud p with q;feud p  with   q", 3, 59);
        OvenNames x = good(due, two + "feud p with q;", 2);
        Due.put(x, two + "feud p with q;");
        due.is("told anew", x.village(), 2);
    }

    private static void numberThatCantBe(Due due) {
        fault(due, "soul a needs 100;", 4, 13);
        fault(due, "soul a needs 99 stays 100;", 4, 22);
        fault(due, "heat 10;", 4, 5);
        fault(due, "draw 1000;", 4, 5);
        fault(due, "soul a needs 0100;", 4, 13);
        // in a loaf each number can be
        loaf(due, "9999", 99);
        loaf(due, "1000-999", 1);
    }

    private static void unknown(Due due) {
        fault(due, "feud x with y;", 5, 5);
        fault(due, "soul x needs 1;feud x with y;", 5, 27);
        fault(due, "deed x;feud x with x;", 5, 12);
        fault(due, "loaf x;", 5, 5);
        fault(due, "soul x needs 1;loaf x;", 5, 20);
        fault(due, "deed xx;loaf x;", 5, 13);
        fault(due, "deed x;loaf xx;", 5, 12);
        // what an earlier text told is not there any more
        OvenNames x = good(due, "deed a;soul b needs 1;", 1);
        Due.put(x, "loaf a;");
        due.is("a DEED told before", x.village(), -1);
        due.is("a DEED told before", x.fault(0), 5);
        Due.put(x, "soul c needs 1;feud c with b;");
        due.is("a SOUL told before", x.village(), -1);
        due.is("a SOUL told before", x.fault(0), 5);
    }
}
