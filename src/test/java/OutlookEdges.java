/** Terms, part 3: MAKES, WANTS, WARM, WILL, ODDS, SOONEST; promises 26 to 31. */
final class OutlookEdges {
    private static final int LOW = Sight.LOW;
    private static final int HIGH = Sight.HIGH;
    private static final int[] NO_SOUL = {LOW, -33, -2, -1, 3, 4, 5, 31, 32, 33, HIGH};
    private static final String FIVE_DEEDS = "deed a;deed b;deed c;deed d;deed e;";

    private OutlookEdges() {
    }

    static void addTo(Edges edges) {
        edges.terms(3, "MAKES: sets of DEEDS by which a SOUL's LOAF would be just so.", OutlookEdges::makesJustSo);
        edges.terms(3, "WANTS: the fewest DEEDS (in place of those done) by which it would be so much at least;"
                + " of like ones the least set as bits.", OutlookEdges::wantsFewest);
        edges.terms(3, "WARM: heats (0 .. 9) by which it would be so much at least.", OutlookEdges::warmHeats);
        edges.terms(3, "WILL: LOAF behind n BREADS, nothing done or said between (what is done, said now counts for the first).",
                OutlookEdges::willFirst);
        edges.terms(3, "ODDS: likewise, if each heat behind a BREAD is any of 0 .. 9 by the same odds (whatever the SEED is):"
                + " that the LOAF is so much at least.", OutlookEdges::oddsOfHeats);
        edges.terms(3, "SOONEST: the fewest BREADS (60 at most) behind which it is so much at least.",
                OutlookEdges::soonestFewest);
        edges.promise(26, "0 if one can't be.", OutlookEdges::makesRefused);
        edges.promise(27, "NONE if it can't be, or one can't be.", OutlookEdges::wantsRefused);
        edges.promise(28, "WARM, as bits; NONE if there is none such.", OutlookEdges::warmRefused);
        edges.promise(29, "WILL (n 0 .. 60); NONE if one can't be.", OutlookEdges::willRefused);
        edges.promise(30, "ODDS (n 0 .. 6 BREADS) the upper part (0), the lower part (1), in lowest terms (0 of 1)",
                OutlookEdges::oddsInLowestTerms);
        edges.promise(30, "NONE if one can't be.", OutlookEdges::oddsRefused);
        edges.promise(31, "SOONEST (0: now, as it is); NONE if 60 are not enough, or there is none such.",
                OutlookEdges::soonestRefused);
    }

    private static void makesJustSo(Due due) {
        OvenNames x = Due.village(FIVE_DEEDS + "soul s needs 1;loaf a+b*2+c*4+d*8+e*16;");
        for (int set = 0; set < 32; set++) {
            due.is("the set alone", x.makes(0, set), 1 << set);
        }
        due.is("no set", x.makes(0, 32), 0);
        x.does(0, 2);
        due.is("whatever is done now", x.makes(0, 0), 1);
        // cut below and above
        OvenNames y = Due.village("deed a;soul s needs 1;loaf a*200-100;");
        due.is("below 0 is 0", y.makes(0, 0), 1);
        due.is("above 99 is 99", y.makes(0, 99), 2);
        due.is("98", y.makes(0, 98), 0);
        // all sets, or the only one
        due.is("all 32", Due.village(FIVE_DEEDS + "soul s needs 1;").makes(0, 10), -1);
        due.is("none of 32", Due.village(FIVE_DEEDS + "soul s needs 1;").makes(0, 11), 0);
        due.is("no DEEDS", Due.village("soul s needs 1;").makes(0, 10), 1);
    }

    private static void wantsFewest(Due due) {
        OvenNames x = Due.village(FIVE_DEEDS + "soul s needs 1;loaf a+b+c+d+e;");
        for (int least = 0; least <= 5; least++) {
            due.is("how many", x.wants(0, least, 0), least);
            due.is("the least set", x.wants(0, least, 1), (1 << least) - 1);
        }
        due.is("more than all", x.wants(0, 6, 0), -1);
        due.is("more than all", x.wants(0, 6, 1), -1);
        // fewer DEEDS, though their set is more
        OvenNames y = Due.village(FIVE_DEEDS + "soul s needs 1;loaf a+b+c+d+e*4;");
        due.is("one", y.wants(0, 4, 0), 1);
        due.is("the last one", y.wants(0, 4, 1), 16);
        due.is("two", y.wants(0, 5, 1), 17);
        // in place of those done: what is done need not stay
        OvenNames z = Due.village("deed a;deed b;soul s needs 1;loaf 20-a*15+b*3;");
        z.does(0, 0);
        due.is("LOAF now", z.soul(0, 5), 5);
        due.is("none", z.wants(0, 20, 0), 0);
        due.is("b alone", z.wants(0, 21, 1), 2);
        due.is("just enough", z.wants(0, 23, 1), 2);
        due.is("one more", z.wants(0, 24, 1), -1);
    }

    private static void warmHeats(Due due) {
        OvenNames x = Due.village("soul s needs 1;loaf heat;heat 4;");
        for (int least = 0; least <= 9; least++) {
            due.is("from there on", x.warm(0, least), 1023 & -(1 << least));
        }
        due.is("no heat", x.warm(0, 10), 0);
        OvenNames y = Due.village("soul s needs 1;loaf 9-heat;");
        due.is("0 alone", y.warm(0, 9), 1);
        due.is("0 and 1", y.warm(0, 8), 3);
        due.is("none above 9, none below 0", Due.village("soul s needs 1;loaf (heat>9 or heat<0)*5;").warm(0, 1), 0);
    }

    private static void willFirst(Due due) {
        OvenNames x = Due.village("deed a;soul s needs 1;loaf a*20+said*5+old+1;");
        x.does(0, 0);
        x.says(0, 0);
        due.is("now", x.will(0, 0), 26);
        due.is("behind the first", x.will(0, 1), 27);
        due.is("behind the second", x.will(0, 2), 28);
        x.bread();
        due.is("so it comes", x.soul(0, 5), 27);
        x.bread();
        due.is("so it comes", x.soul(0, 5), 28);
        // the heats come by the SEED: 3, then 482, 105, 456
        OvenNames y = Due.village("soul s needs 1;loaf heat;heat 7;draw 3;");
        int[] heats = {7, 2, 5, 6};
        for (int n = 0; n < heats.length; n++) {
            due.is("heat", y.will(0, n), heats[n]);
        }
    }

    private static void oddsOfHeats(Due due) {
        OvenNames x = Due.village("soul s needs 1;loaf heat;heat 7;draw 3;");
        due.is("the heat now is known", x.odds(0, 0, 7, 0), 1);
        due.is("the heat now is known", x.odds(0, 0, 8, 0), 0);
        for (int least = 1; least <= 9; least++) {
            long upper = x.odds(0, 1, least, 0);
            long lower = x.odds(0, 1, least, 1);
            due.is("one of ten each", upper * 10, lower * (10 - least));
        }
        due.is("0 at least", x.odds(0, 1, 0, 0), 1);
        due.is("10", x.odds(0, 1, 10, 0), 0);
        OvenNames y = Due.village("soul s needs 1;loaf (heat=0 or heat=9)*5;");
        due.is("0 and 9 are heats", y.odds(0, 1, 5, 0), 1);
        due.is("0 and 9 are heats", y.odds(0, 1, 5, 1), 5);
        // whatever the SEED is
        for (int draw : new int[] {0, 1, 500, 999}) {
            OvenNames z = Due.village("soul s needs 1;loaf old+heat;draw " + draw + ";");
            due.is("of 100", z.odds(0, 2, 18, 0), 1);
            due.is("of 100", z.odds(0, 2, 18, 1), 100);
        }
        // what is done, said now counts for the first
        OvenNames w = Due.village("deed a;soul s needs 1;loaf a*30+said*20+old/2+(heat>4);");
        w.does(0, 0);
        w.says(0, 0);
        due.is("25 for sure", w.odds(0, 1, 25, 1), 1);
        due.is("26 by a half", w.odds(0, 1, 26, 1), 2);
        // a week more is stayed behind each
        OvenNames v = Due.village("soul s needs 1;loaf stay;");
        for (int n = 0; n <= 6; n++) {
            due.is("so many weeks", v.odds(0, n, n, 0), 1);
            due.is("not more", v.odds(0, n, n + 1, 0), 0);
        }
        // LOAVES of 0 and of 99 count
        OvenNames u = Due.village("soul s needs 1;loaf (heat<5)*99;heat 9;");
        due.is("0 now", u.odds(0, 0, 1, 0), 0);
        due.is("99 behind one", u.odds(0, 1, 99, 1), 2);
        due.is("99 behind six", u.odds(0, 6, 99, 1), 2);
        due.is("99 for sure", Due.village("soul s needs 1;loaf 99;").odds(0, 6, 99, 0), 1);
    }

    private static void soonestFewest(Due due) {
        OvenNames x = Due.village("soul s needs 1;loaf stay;");
        for (int least : new int[] {0, 1, 2, 59, 60}) {
            due.is("behind as many", x.soonest(0, least), least);
        }
        due.is("61 are too many", x.soonest(0, 61), -1);
        // the first of more
        OvenNames y = Due.village("soul s needs 1;loaf (stay=4 or stay=7)*9;");
        due.is("the fewest", y.soonest(0, 9), 4);
        due.is("never", y.soonest(0, 10), -1);
    }

    private static void makesRefused(Due due) {
        for (int soul : NO_SOUL) {
            Sight.refuses(due, "makes(" + soul + ", 6)", x -> x.makes(soul, 6), 0);
        }
        for (int loaf : new int[] {LOW, -100, -1, 100, 101, HIGH}) {
            Sight.refuses(due, "makes(0, " + loaf + ")", x -> x.makes(0, loaf), 0);
        }
        due.is("of no SOULS", new OvenNames().makes(0, 10), 0);
        due.is("SOUL 4", fiveSouls().makes(4, 10), 1);
        due.is("SOUL 5", fiveSouls().makes(5, 10), 0);
    }

    private static OvenNames fiveSouls() {
        return Due.village("soul a needs 1;soul b needs 1;soul c needs 1;soul d needs 1;soul e needs 1;");
    }

    private static void wantsRefused(Due due) {
        for (int soul : NO_SOUL) {
            Sight.refuses(due, "wants(" + soul + ", 0, 0)", x -> x.wants(soul, 0, 0), -1);
            Sight.refuses(due, "wants(" + soul + ", 0, 1)", x -> x.wants(soul, 0, 1), -1);
        }
        for (int what : new int[] {LOW, -2, -1, 2, 3, HIGH}) {
            Sight.refuses(due, "wants(0, 0, " + what + ")", x -> x.wants(0, 0, what), -1);
        }
        for (int least : new int[] {100, 101, HIGH}) {
            Sight.refuses(due, "wants(0, " + least + ", 0)", x -> x.wants(0, least, 0), -1);
            Sight.refuses(due, "wants(0, " + least + ", 1)", x -> x.wants(0, least, 1), -1);
        }
        OvenNames x = Due.village("deed a;soul s needs 1;loaf a*100;");
        due.is("99", x.wants(0, 99, 0), 1);
        due.is("100", x.wants(0, 100, 0), -1);
        due.is("0", x.wants(0, 0, 0), 0);
        due.is("below 0", x.wants(0, -1, 0), 0);
        due.is("far below 0", x.wants(0, LOW, 1), 0);
        due.is("of no SOULS", new OvenNames().wants(0, 0, 0), -1);
        due.is("no DEEDS", Due.village("soul s needs 1;").wants(0, 10, 0), 0);
        due.is("no DEEDS", Due.village("soul s needs 1;").wants(0, 11, 0), -1);
        due.is("SOUL 5", fiveSouls().wants(5, 0, 0), -1);
    }

    private static void warmRefused(Due due) {
        for (int soul : NO_SOUL) {
            Sight.refuses(due, "warm(" + soul + ", 0)", x -> x.warm(soul, 0), -1);
        }
        OvenNames x = fiveSouls();
        due.is("SOUL 4", x.warm(4, 10), 1023);
        due.is("no heat is enough", x.warm(4, 11), 0);
        due.is("SOUL 5", x.warm(5, 10), -1);
        due.is("of no SOULS", new OvenNames().warm(0, 0), -1);
        due.is("99", Due.village("soul s needs 1;loaf 100;").warm(0, 99), 1023);
        due.is("100", Due.village("soul s needs 1;loaf 100;").warm(0, 100), 0);
        due.is("far above", x.warm(0, HIGH), 0);
        due.is("far below", x.warm(0, LOW), 1023);
    }

    private static void willRefused(Due due) {
        for (int soul : NO_SOUL) {
            Sight.refuses(due, "will(" + soul + ", 0)", x -> x.will(soul, 0), -1);
        }
        for (int n : new int[] {LOW, -2, -1, 61, 62, HIGH}) {
            Sight.refuses(due, "will(0, " + n + ")", x -> x.will(0, n), -1);
        }
        OvenNames x = Due.village("soul s needs 1 stays 30;loaf stay;");
        due.is("0", x.will(0, 0), 30);
        due.is("1", x.will(0, 1), 31);
        due.is("59", x.will(0, 59), 89);
        due.is("60", x.will(0, 60), 90);
        due.is("61", x.will(0, 61), -1);
        due.is("stay is 99 at most", Due.village("soul s needs 1 stays 98;loaf stay*2-100;").will(0, 60), 98);
        due.is("of no SOULS", new OvenNames().will(0, 0), -1);
        due.is("SOUL 5", fiveSouls().will(5, 0), -1);
        // each LOAF on the way is 0 at least, 99 at most
        due.is("99 on the way", Due.village("soul s needs 1;loaf (stay=0)*200+(stay>0)*(old-9);").will(0, 1), 90);
        due.is("0 on the way", Due.village("soul s needs 1;loaf (stay=0)*(0-50)+(stay>0)*(old+7);").will(0, 1), 7);
    }

    private static void oddsInLowestTerms(Due due) {
        OvenNames x = Due.village("soul s needs 1;loaf old+heat;");
        int[] all = {1, 10, 100, 1000, 10000, 100000, 1000000};
        for (int n = 0; n <= 6; n++) {
            due.is("all nines, upper", x.odds(0, n, 9 * n, 0), 1);
            due.is("all nines, lower", x.odds(0, n, 9 * n, 1), all[n]);
            due.is("for sure, upper", x.odds(0, n, 0, 0), 1);
            due.is("for sure, lower", x.odds(0, n, 0, 1), 1);
            due.is("never, upper", x.odds(0, n, 9 * n + 1, 0), 0);
            due.is("never, lower", x.odds(0, n, 9 * n + 1, 1), 1);
        }
        OvenNames y = Due.village("soul s needs 1;loaf heat;");
        int[] upper = {1, 9, 4, 7, 3, 1, 2, 3, 1, 1};
        int[] lower = {1, 10, 5, 10, 5, 2, 5, 10, 5, 10};
        for (int least = 0; least <= 9; least++) {
            due.is("upper", y.odds(0, 1, least, 0), upper[least]);
            due.is("lower", y.odds(0, 1, least, 1), lower[least]);
            due.is("upper of 6", y.odds(0, 6, least, 0), upper[least]);
            due.is("lower of 6", y.odds(0, 6, least, 1), lower[least]);
        }
        due.is("stay is 99 at most", Due.village("soul s needs 1 stays 98;loaf stay=99;").odds(0, 6, 1, 0), 1);
    }

    private static void oddsRefused(Due due) {
        for (int soul : NO_SOUL) {
            Sight.refuses(due, "odds(" + soul + ", 0, 0, 0)", x -> x.odds(soul, 0, 0, 0), -1);
        }
        for (int n : new int[] {LOW, -2, -1, 7, 8, HIGH}) {
            Sight.refuses(due, "odds(0, " + n + ", 0, 0)", x -> x.odds(0, n, 0, 0), -1);
            Sight.refuses(due, "odds(0, " + n + ", 0, 1)", x -> x.odds(0, n, 0, 1), -1);
        }
        for (int part : new int[] {LOW, -2, -1, 2, 3, HIGH}) {
            Sight.refuses(due, "odds(0, 1, 0, " + part + ")", x -> x.odds(0, 1, 0, part), -1);
        }
        OvenNames x = fiveSouls();
        due.is("99", x.odds(0, 1, 99, 0), 0);
        due.is("far above", x.odds(0, 1, HIGH, 0), 0);
        due.is("far above", x.odds(0, 1, HIGH, 1), 1);
        due.is("far below", x.odds(0, 1, LOW, 0), 1);
        due.is("SOUL 4", x.odds(4, 6, 10, 0), 1);
        due.is("SOUL 5", x.odds(5, 6, 10, 0), -1);
        due.is("of no SOULS", new OvenNames().odds(0, 0, 0, 0), -1);
    }

    private static void soonestRefused(Due due) {
        for (int soul : NO_SOUL) {
            Sight.refuses(due, "soonest(" + soul + ", 0)", x -> x.soonest(soul, 0), -1);
        }
        OvenNames x = Due.village("deed a;soul s needs 1;loaf a*50+stay;");
        due.is("60", x.soonest(0, 60), 60);
        due.is("61", x.soonest(0, 61), -1);
        x.does(0, 0);
        due.is("now, by what is done", x.soonest(0, 50), 0);
        due.is("51 is not now", x.soonest(0, 51), 51);
        due.is("100", x.soonest(0, 100), -1);
        due.is("far above", x.soonest(0, HIGH), -1);
        due.is("far below", x.soonest(0, LOW), 0);
        due.is("SOUL 5", fiveSouls().soonest(5, 0), -1);
        due.is("of no SOULS", new OvenNames().soonest(0, 0), -1);
    }
}
