/** Terms, part 4: REPORTS, and what is known by them; promises 33 to 40. */
final class ReportEdges {
    private static final int LOW = Sight.LOW;
    private static final int HIGH = Sight.HIGH;
    private static final String FOUR_DEEDS = "deed a;deed b;deed c;deed d;";
    private static final String CODE = "(a+b*2+c*4+d*8)";

    private ReportEdges() {
    }

    static void addTo(Edges edges) {
        edges.terms(4, "REPORTS, 30 at most, are TOLD at a TIME", ReportEdges::thirty);
        edges.terms(4, "(0 at first, goes on)", ReportEdges::timeGoesOn);
        edges.terms(4, "UNTOLD at a later one or the same", ReportEdges::untoldAtTheSame);
        edges.terms(4, "of somebody unknown, by the same DEEDS, the LOAF would be so much by a stay, an old, a heat (0 say a NAME).",
                ReportEdges::noneSaysAName);
        edges.terms(4, "As known at k those count that were TOLD at k or before, not UNTOLD at k or before.",
                ReportEdges::knownAt);
        edges.terms(4, "FIT: sets of DEEDS by which all that count are so.", ReportEdges::fitAll);
        edges.terms(4, "SURE of a DEED: whether it is in all of these.", ReportEdges::sureInAll);
        edges.terms(4, "ASK: the heat (by told stay and old) by which the most of these that are left, whatever the LOAF is,"
                + " are fewest; of like ones the least.", ReportEdges::askLeast);
        edges.terms(4, "COURSE, of 10 sets that FIT at most: the fewest LOAVES (by stay 0, old 0, and a heat each, chosen by what"
                + " came) behind which one knows which set it is, whichever it is", ReportEdges::courseFewest);
        edges.terms(4, "the heat to begin with, of like ones the least.", ReportEdges::courseHeat);
        edges.promise(33, "A REPORT (stay, old, LOAF 0 .. 99, heat 0 .. 9): its number", ReportEdges::reportLimits);
        edges.promise(33, "NONE, doing nothing, if one can't be, or there are 30.", ReportEdges::reportRefused);
        edges.promise(34, "It is UNTOLD: true; false if it is so already, or there is none such.", ReportEdges::untellRefused);
        edges.promise(35, "So much later (0 .. 1000): the TIME", ReportEdges::laterLimits);
        edges.promise(35, "NONE, doing nothing, for another number, or if it would be above 100,000.",
                ReportEdges::laterRefused);
        edges.promise(36, "FIT: how many sets.", ReportEdges::fitCount);
        edges.promise(37, "FIT (bit s: the set s, as bits).", ReportEdges::setsBits);
        edges.promise(38, "SURE: 1 if it is in all, 0 if in none, -2 if in some", ReportEdges::sureThree);
        edges.promise(38, "NONE if none FITS, or there is no such DEED.", ReportEdges::sureRefused);
        edges.promise(39, "1: how many are left at the most", ReportEdges::askLeft);
        edges.promise(39, "NONE if none FITS, or one can't be (stay, old 0 .. 99).", ReportEdges::askRefused);
        edges.promise(40, "COURSE what 0: how many LOAVES (0 of one), 1: the heat (NONE: no LOAF)", ReportEdges::courseOfOne);
        edges.promise(40, "-2 of more than 10", ReportEdges::courseOfMore);
        edges.promise(40, "NONE if none FITS, if it can't be known, or for another what.", ReportEdges::courseRefused);
    }

    private static void thirty(Due due) {
        OvenNames x = Due.village("deed a;loaf a;");
        for (int i = 0; i < 30; i++) {
            due.is("REPORTS", x.about(9), i);
            due.is("its number", x.report(0, 0, 0, i == 29 ? 1 : 0), i);
        }
        due.is("REPORTS", x.about(9), 30);
        due.is("the last counts", x.fit(0), 0);
        due.is("one more", x.report(0, 0, 0, 0), -1);
        due.is("REPORTS", x.about(9), 30);
        // UNTOLD ones are REPORTS still
        due.yes("untell", x.untell(29));
        due.is("REPORTS", x.about(9), 30);
        due.is("one more", x.report(0, 0, 0, 0), -1);
        due.is("the others count", x.sets(0), 1);
        Due.put(x, "deed a;loaf a;");
        x.village();
        due.is("of another VILLAGE", x.about(9), 0);
        due.is("its number", x.report(0, 0, 0, 1), 0);
        due.is("only that one counts", x.sets(0), 2);
    }

    private static void timeGoesOn(Due due) {
        OvenNames x = new OvenNames();
        due.is("at first", x.about(10), 0);
        x.later(5);
        x.village();
        due.is("of another VILLAGE", x.about(10), 5);
        x.image(0);
        x.later(2);
        x.bread();
        x.undo();
        x.back(0);
        due.is("neither undo nor back takes it back", x.about(10), 7);
    }

    private static void untoldAtTheSame(Due due) {
        OvenNames x = Due.village("deed a;loaf a;");
        x.later(4);
        x.report(0, 0, 0, 1);
        due.is("it counts", x.sets(4), 2);
        x.untell(0);
        due.is("at no time it counts", x.sets(3), 3);
        due.is("at no time it counts", x.sets(4), 3);
        due.is("at no time it counts", x.sets(5), 3);
        x.report(0, 0, 0, 1);
        x.later(1);
        x.untell(1);
        due.is("before", x.sets(3), 3);
        due.is("at its TIME", x.sets(4), 2);
        due.is("at the TIME at which it is UNTOLD", x.sets(5), 3);
    }

    private static void noneSaysAName(Due due) {
        OvenNames x = Due.village("deed a;soul s needs 1;soul t needs 1;loaf a+said*9+stay*2+old*3+heat;heat 8;");
        x.says(0, 0);
        x.says(1, 0);
        x.does(0, 0);
        x.report(5, 7, 9, 1 + 10 + 21 + 9);
        due.is("by what it tells alone", x.sets(0), 2);
        x.report(0, 0, 0, 0);
        due.is("none FITS both", x.sets(0), 0);
        x.untell(0);
        due.is("by 0, 0, 0", x.sets(0), 1);
    }

    private static void knownAt(Due due) {
        OvenNames x = Due.village("deed a;deed b;loaf a+b*2;");
        x.later(10);
        x.report(0, 0, 0, 3);
        x.later(10);
        x.untell(0);
        x.later(10);
        x.report(0, 0, 0, 1);
        int[] times = {LOW, -1, 0, 9, 10, 11, 19, 20, 21, 29, 30, 31, 100000, HIGH};
        int[] want = {15, 15, 15, 15, 8, 8, 8, 15, 15, 15, 2, 2, 2, 2};
        for (int i = 0; i < times.length; i++) {
            due.is("sets(" + times[i] + ")", x.sets(times[i]), want[i]);
            due.is("fit(" + times[i] + ")", x.fit(times[i]), want[i] == 15 ? 4 : 1);
            due.is("sure(0, " + times[i] + ")", x.sure(0, times[i]), want[i] == 15 ? -2 : 1);
            due.is("ask(.., " + times[i] + ")", x.ask(0, 0, 1, times[i]), 1);
            due.is("course(0, " + times[i] + ")", x.course(0, times[i]), want[i] == 15 ? 1 : 0);
        }
    }

    private static void fitAll(Due due) {
        OvenNames x = Due.village("deed a;deed b;deed c;loaf (heat=0)*a+(heat=1)*b+(heat=2)*c;");
        due.is("none counts: all", x.sets(0), 255);
        x.report(0, 0, 0, 1);
        due.is("a", x.sets(0), 0xaa);
        x.report(0, 0, 1, 0);
        due.is("a, not b", x.sets(0), 0x22);
        x.report(0, 0, 2, 1);
        due.is("a and c", x.sets(0), 0x20);
        x.report(0, 0, 9, 1);
        due.is("none", x.sets(0), 0);
        due.is("of no DEEDS, right", noDeeds(10).sets(0), 1);
        due.is("of no DEEDS, wrong", noDeeds(9).sets(0), 0);
        // a LOAF is 99 at most, 0 at least
        OvenNames y = Due.village("deed a;loaf a*500-200;");
        y.report(0, 0, 0, 99);
        due.is("99", y.sets(0), 2);
        OvenNames z = Due.village("deed a;loaf a*500-200;");
        z.report(0, 0, 0, 0);
        due.is("0", z.sets(0), 1);
    }

    private static OvenNames noDeeds(int loaf) {
        OvenNames x = new OvenNames();
        x.report(0, 0, 0, loaf);
        return x;
    }

    private static void sureInAll(Due due) {
        OvenNames x = Due.village("deed a;deed b;deed c;deed d;deed e;loaf (a and e)*5+b;");
        due.is("not known", x.sure(4, 0), -2);
        x.report(0, 0, 0, 5);
        due.is("a", x.sure(0, 0), 1);
        due.is("b", x.sure(1, 0), 0);
        due.is("c", x.sure(2, 0), -2);
        due.is("d", x.sure(3, 0), -2);
        due.is("e", x.sure(4, 0), 1);
    }

    private static void askLeast(Due due) {
        OvenNames x = Due.village("deed a;deed b;loaf (heat=9)*(a+b*2)+(heat=3)*a+(heat=6)*b;");
        due.is("the last heat", x.ask(0, 0, 0, 0), 9);
        due.is("one is left", x.ask(0, 0, 1, 0), 1);
        x.report(0, 0, 3, 1);
        due.is("of like ones the least", x.ask(0, 0, 0, 0), 6);
        x.report(0, 0, 6, 1);
        due.is("one is left already", x.ask(0, 0, 0, 0), 0);
        // not how many LOAVES there are, but the most that one leaves: 3, 1 is worse than 2, 2
        OvenNames y = Due.village("deed a;deed b;loaf (heat=1)*(a and b)+(heat=2)*a;");
        due.is("two and two", y.ask(0, 0, 0, 0), 2);
        due.is("two and two", y.ask(0, 0, 1, 0), 2);
        OvenNames z = Due.village("deed a;deed b;deed c;loaf (heat=1)*(a+b+c)+(heat=2)*(a+b*2);");
        // by 1: 1, 3, 3, 1 are left, by 2: 2 each
        due.is("2 at the most", z.ask(0, 0, 0, 0), 2);
        due.is("2 at the most", z.ask(0, 0, 1, 0), 2);
        OvenNames w = Due.village("deed a;loaf (stay=99 and old=99 and heat=5)*a;");
        due.is("by stay and old", w.ask(99, 99, 0, 0), 5);
        due.is("by another old", w.ask(99, 98, 0, 0), 0);
        due.is("by another stay", w.ask(98, 99, 1, 0), 2);
        due.is("no heat above 9", Due.village("deed a;loaf (heat>9)*a;").ask(0, 0, 1, 0), 2);
        due.is("0 say a NAME", Due.village("deed a;loaf a*(said=0);").ask(0, 0, 1, 0), 1);
        due.is("0 say a NAME", Due.village("deed a;loaf a*(said=1);").ask(0, 0, 1, 0), 2);
        due.is("LOAVES of 0 and of 99", Due.village("deed a;loaf a*99;").ask(0, 0, 1, 0), 1);
        due.is("all of 99", Due.village("deed a;loaf 99;").ask(0, 0, 1, 0), 2);
    }

    /** Heat h tells only whether the set is h: of n sets n - 1 LOAVES are due. */
    private static OvenNames oneByOne(int sets) {
        OvenNames x = Due.village(FOUR_DEEDS + "loaf (stay=1)*(" + CODE + "<" + sets + ")+(stay=0)*(" + CODE + "=heat);");
        x.report(1, 0, 0, 1);
        return x;
    }

    private static void courseFewest(Due due) {
        for (int sets = 1; sets <= 10; sets++) {
            OvenNames x = oneByOne(sets);
            due.is("sets", x.fit(0), sets);
            due.is("one by one", x.course(0, 0), sets - 1);
        }
        // all at once
        OvenNames y = Due.village(FOUR_DEEDS + "loaf (stay=1)*(" + CODE + "<10)+(stay=0)*" + CODE + ";");
        y.report(1, 0, 0, 1);
        due.is("sets", y.fit(0), 10);
        due.is("at once", y.course(0, 0), 1);
        // chosen by what came: a tells by which heat b is seen
        OvenNames z = Due.village("deed a;deed b;loaf (heat=3)*a+(heat=5)*(a and b)+(heat=8)*(b>a);");
        due.is("two", z.course(0, 0), 2);
        // of 32 sets those few that FIT: the first and the last among them
        OvenNames w = Due.village("deed a;deed b;deed c;deed d;deed e;loaf (heat=1)*((a+b+c+d+e)%5)+(heat=2)*e;");
        w.report(0, 0, 1, 0);
        due.is("none and all", w.sets(0), 1 | 1 << 31);
        due.is("one", w.course(0, 0), 1);
        due.is("by the last DEED", w.course(1, 0), 2);
        // what is known by other REPORTS does not count for these
        OvenNames v = Due.village("deed a;deed b;deed c;loaf (heat=1)*(a+b)+(heat=2)*a+(heat=3)*(b+c*2);");
        due.is("all", v.course(0, 0), 2);
        v.report(0, 0, 1, 1);
        due.is("a or b", v.course(0, 0), 1);
        due.is("a or b, and c", v.course(1, 0), 3);
        v.untell(0);
        v.report(0, 0, 1, 2);
        due.is("a and b", v.course(0, 0), 1);
        due.is("all, as known before", v.course(0, -1), 2);
        // neither stay nor old
        due.is("stay 0", Due.village("deed a;loaf a*stay;").course(0, 0), -1);
        due.is("old 0", Due.village("deed a;loaf a*old;").course(0, 0), -1);
        due.is("0 say a NAME", Due.village("deed a;loaf a*said;").course(0, 0), -1);
    }

    private static void courseHeat(Due due) {
        for (int sets = 2; sets <= 10; sets++) {
            due.is("of like ones the least", oneByOne(sets).course(1, 0), 0);
        }
        due.is("the last heat", Due.village("deed a;loaf (heat=9)*a;").course(1, 0), 9);
        due.is("the first heat", Due.village("deed a;loaf (heat=0)*a;").course(1, 0), 0);
        // one that tells nothing does not begin, if fewer can be
        OvenNames x = Due.village("deed a;deed b;loaf (heat=4)*a+(heat=7)*b;");
        due.is("of like ones the least", x.course(1, 0), 4);
        x.report(0, 0, 4, 0);
        due.is("what is left", x.course(1, 0), 7);
        // fewest at the worst: 2 tells one apart, 6 makes halves of four
        OvenNames y = Due.village("deed a;deed b;loaf (heat=2)*(a and b)+(heat=6)*a+(heat=7)*b;");
        due.is("two", y.course(0, 0), 2);
        due.is("halves", y.course(1, 0), 6);
    }

    private static void reportLimits(Due due) {
        OvenNames x = Due.village("deed a;loaf stay+old+heat;");
        due.is("the least", x.report(0, 0, 0, 0), 0);
        due.is("stay 99", x.report(99, 0, 0, 99), 1);
        due.is("old 99", x.report(0, 99, 0, 99), 2);
        due.is("heat 9", x.report(0, 0, 9, 9), 3);
        due.is("the most", x.report(99, 99, 9, 99), 4);
        due.is("all are so", x.sets(0), 3);
        due.is("LOAF 0", x.report(99, 99, 9, 0), 5);
        due.is("that is not so", x.sets(0), 0);
    }

    private static void reportRefused(Due due) {
        for (int wrong : new int[] {LOW, -2, -1, 100, 101, HIGH}) {
            Sight.refuses(due, "report(" + wrong + ", 0, 0, 0)", x -> x.report(wrong, 0, 0, 0), -1);
            Sight.refuses(due, "report(0, " + wrong + ", 0, 0)", x -> x.report(0, wrong, 0, 0), -1);
            Sight.refuses(due, "report(0, 0, 0, " + wrong + ")", x -> x.report(0, 0, 0, wrong), -1);
        }
        for (int heat : new int[] {LOW, -2, -1, 10, 11, 99, HIGH}) {
            Sight.refuses(due, "report(0, 0, " + heat + ", 0)", x -> x.report(0, 0, heat, 0), -1);
        }
        OvenNames one = Sight.rich();
        OvenNames other = Sight.rich();
        for (int i = 2; i < 30; i++) {
            due.is("its number", one.report(0, 0, 0, 6), i);
            other.report(0, 0, 0, 6);
        }
        due.is("there are 30", one.report(9, 9, 9, 9), -1);
        Sight.alike(due, "report() of 31", one, other);
    }

    private static void untellRefused(Due due) {
        OvenNames x = Due.village("deed a;loaf a;");
        due.no("there is none", x.untell(0));
        for (int i = 0; i < 30; i++) {
            due.no("not yet", x.untell(i));
            x.report(0, 0, 0, 0);
        }
        due.yes("the first", x.untell(0));
        due.yes("the last", x.untell(29));
        due.no("the last again", x.untell(29));
        due.no("above", x.untell(30));
        x.later(3);
        due.no("later on", x.untell(0));
        // it stays UNTOLD at its TIME
        OvenNames y = Due.village("deed a;loaf a;");
        y.report(0, 0, 0, 1);
        y.later(1);
        y.untell(0);
        y.later(1);
        due.no("again", y.untell(0));
        due.is("as known at 0", y.sets(0), 2);
        due.is("as known at 1", y.sets(1), 3);
        for (int report : new int[] {LOW, -2, -1, 0, 2, 3, 29, 30, 32, HIGH}) {
            Sight.refuses(due, "untell(" + report + ")", each -> each.untell(report) ? 1 : 0, 0);
        }
    }

    private static void laterLimits(Due due) {
        OvenNames x = new OvenNames();
        due.is("0", x.later(0), 0);
        due.is("1", x.later(1), 1);
        due.is("999", x.later(999), 1000);
        due.is("1000", x.later(1000), 2000);
        due.is("TIME", x.about(10), 2000);
    }

    private static void laterRefused(Due due) {
        for (int by : new int[] {LOW, -1000, -1, 1001, 1002, 100000, HIGH}) {
            Sight.refuses(due, "later(" + by + ")", x -> x.later(by), -1);
        }
        OvenNames x = new OvenNames();
        for (int i = 1; i <= 99; i++) {
            due.is("later", x.later(1000), i * 1000);
        }
        due.is("99,999", x.later(999), 99999);
        due.is("100,001", x.later(2), -1);
        due.is("TIME", x.about(10), 99999);
        due.is("far above", x.later(1000), -1);
        due.is("0", x.later(0), 99999);
        due.is("100,000", x.later(1), 100000);
        due.is("above", x.later(1), -1);
        due.is("0", x.later(0), 100000);
        due.is("TIME", x.about(10), 100000);
        x.report(0, 0, 0, 9);
        due.is("at the last TIME", x.fit(100000), 0);
        due.is("a TIME before", x.fit(99999), 1);
    }

    private static void fitCount(Due due) {
        due.is("of no DEEDS", new OvenNames().fit(0), 1);
        String deeds = "";
        for (int count = 1; count <= 5; count++) {
            deeds += "deed " + "abcde".charAt(count - 1) + ";";
            due.is("all sets", Due.village(deeds).fit(0), 1 << count);
        }
        due.is("none", noDeeds(9).fit(0), 0);
        due.is("before it was TOLD", noDeeds(9).fit(-1), 1);
        Sight.onlyLooks(due, "fit(6)", x -> x.fit(6));
    }

    private static void setsBits(Due due) {
        due.is("of no DEEDS", new OvenNames().sets(0), 1);
        OvenNames x = Due.village("deed a;deed b;deed c;deed d;deed e;loaf a+b*2+c*4+d*8+e*16;");
        due.is("all 32", x.sets(0), -1);
        x.report(0, 0, 0, 31);
        due.is("the last", x.sets(0), LOW);
        x.untell(0);
        x.report(0, 0, 0, 0);
        due.is("the first", x.sets(0), 1);
        x.report(0, 0, 0, 32);
        due.is("none", x.sets(0), 0);
        Sight.onlyLooks(due, "sets(6)", each -> each.sets(6));
    }

    private static void sureThree(Due due) {
        OvenNames x = Due.village("deed a;loaf (heat=1)*a;");
        due.is("in some", x.sure(0, 0), -2);
        x.report(0, 0, 1, 1);
        due.is("in all", x.sure(0, 0), 1);
        OvenNames y = Due.village("deed a;loaf (heat=1)*a;");
        y.report(0, 0, 1, 0);
        due.is("in none", y.sure(0, 0), 0);
    }

    private static void sureRefused(Due due) {
        for (int deed : new int[] {LOW, -2, -1, 2, 3, 5, 31, 32, HIGH}) {
            Sight.refuses(due, "sure(" + deed + ", 6)", x -> x.sure(deed, 6), -1);
        }
        due.is("of no DEEDS", new OvenNames().sure(0, 0), -1);
        OvenNames x = Due.village("deed a;deed b;deed c;deed d;deed e;loaf a;");
        due.is("DEED 4", x.sure(4, 0), -2);
        due.is("DEED 5", x.sure(5, 0), -1);
        x.report(0, 0, 0, 2);
        for (int deed = 0; deed < 5; deed++) {
            due.is("none FITS", x.sure(deed, 0), -1);
            due.is("before", x.sure(deed, -1), -2);
        }
    }

    private static void askLeft(Due due) {
        due.is("of no DEEDS", new OvenNames().ask(0, 0, 1, 0), 1);
        due.is("of no DEEDS", new OvenNames().ask(0, 0, 0, 0), 0);
        String five = "deed a;deed b;deed c;deed d;deed e;";
        due.is("all 32 are left", Due.village(five).ask(0, 0, 1, 0), 32);
        due.is("by the first heat", Due.village(five).ask(0, 0, 0, 0), 0);
        due.is("one of 32 is left", Due.village(five + "loaf (heat=9)*(a+b*2+c*4+d*8+e*16);").ask(0, 0, 1, 0), 1);
    }

    private static void askRefused(Due due) {
        for (int wrong : new int[] {LOW, -2, -1, 100, 101, HIGH}) {
            for (int what = 0; what < 2; what++) {
                int each = what;
                Sight.refuses(due, "ask(" + wrong + ", 0, ..)", x -> x.ask(wrong, 0, each, 6), -1);
                Sight.refuses(due, "ask(0, " + wrong + ", ..)", x -> x.ask(0, wrong, each, 6), -1);
            }
        }
        for (int what : new int[] {LOW, -2, -1, 2, 3, HIGH}) {
            Sight.refuses(due, "ask(0, 0, " + what + ", 6)", x -> x.ask(0, 0, what, 6), -1);
        }
        OvenNames x = Due.village("deed a;loaf (heat=7)*a;");
        due.is("99, 99", x.ask(99, 99, 0, 0), 7);
        due.is("0, 0", x.ask(0, 0, 0, 0), 7);
        x.report(0, 0, 0, 9);
        due.is("none FITS", x.ask(0, 0, 0, 0), -1);
        due.is("none FITS", x.ask(0, 0, 1, 0), -1);
        due.is("before", x.ask(0, 0, 0, -1), 7);
    }

    private static void courseOfOne(Due due) {
        due.is("of no DEEDS", new OvenNames().course(0, 0), 0);
        due.is("of no DEEDS", new OvenNames().course(1, 0), -1);
        due.is("one set", oneByOne(1).course(0, 0), 0);
        due.is("one set", oneByOne(1).course(1, 0), -1);
        due.is("two sets", oneByOne(2).course(0, 0), 1);
        due.is("two sets", oneByOne(2).course(1, 0), 0);
    }

    private static void courseOfMore(Due due) {
        due.is("10 sets", oneByOne(10).course(0, 0), 9);
        for (int sets = 11; sets <= 16; sets++) {
            OvenNames x = oneByOne(sets);
            due.is("sets", x.fit(0), sets);
            due.is("how many LOAVES", x.course(0, 0), -2);
            due.is("the heat", x.course(1, 0), -2);
        }
        // also if it can't be known
        due.is("32 sets", Due.village("deed a;deed b;deed c;deed d;deed e;loaf 1;").course(0, 0), -2);
        due.is("as known before", oneByOne(3).course(0, -1), -2);
    }

    private static void courseRefused(Due due) {
        OvenNames none = noDeeds(9);
        due.is("none FITS", none.course(0, 0), -1);
        due.is("none FITS", none.course(1, 0), -1);
        OvenNames x = Due.village("deed a;deed b;loaf a;");
        due.is("can't be known", x.course(0, 0), -1);
        due.is("can't be known", x.course(1, 0), -1);
        // of ten sets two can't be told apart
        OvenNames y = Due.village(FOUR_DEEDS + "loaf (stay=1)*(" + CODE + "<10)+(stay=0)*(" + CODE + "=heat%8);");
        y.report(1, 0, 0, 1);
        due.is("sets", y.fit(0), 10);
        due.is("can't be known", y.course(0, 0), -1);
        due.is("can't be known", y.course(1, 0), -1);
        for (int what : new int[] {LOW, -2, -1, 2, 3, HIGH}) {
            Sight.refuses(due, "course(" + what + ", 6)", each -> each.course(what, 6), -1);
            due.is("of one, course(" + what + ")", oneByOne(1).course(what, 0), -1);
        }
        Sight.onlyLooks(due, "course(0, 6)", each -> each.course(0, 6));
    }
}
