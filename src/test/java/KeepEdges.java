/** The TAPE, VILLAGES told, BOXES, about: promises 1 to 5 and 41 to 43. */
final class KeepEdges {
    private static final int LOW = Sight.LOW;
    private static final int HIGH = Sight.HIGH;
    private static final int BLANKS = 0x20202020;

    private KeepEdges() {
    }

    static void addTo(Edges edges) {
        edges.terms(4, "`NONE = -1`: There is none.", KeepEdges::none);
        edges.promise(1, "An empty VILLAGE.", KeepEdges::newObject);
        edges.promise(2, "Twenty bytes come behind those on the TAPE, of each number the highest first: how many there are",
                KeepEdges::twentyBytes);
        edges.promise(2, "NONE, and nothing comes, if there would be more than 1,600.", KeepEdges::feedRefused);
        edges.promise(3, "The TAPE has its first n bytes: n", KeepEdges::firstBytes);
        edges.promise(3, "NONE, doing nothing, if it has not so many, or n is below 0.", KeepEdges::endRefused);
        edges.promise(4, "The TAPE (empty then) is the VILLAGE", KeepEdges::tapeEmptyThen);
        edges.promise(4, "(all as told, week 0, no ACTS are kept, REPORTS are none, nothing lies there, BOXES are empty then;"
                + " the TIME stays): how many SOULS", KeepEdges::allAnew);
        edges.promise(4, "NONE: a FAULT (all stays).", KeepEdges::allStays);
        edges.promise(5, "what 0: its FAULT (0), 1: its place (NONE).", KeepEdges::faultOrNone);
        edges.promise(5, "NONE for another what.", KeepEdges::faultRefused);
        edges.promise(41, "DEEDS, SAYINGS, FEUDS, stays, olds, heat, SEED, the week, who was FED, SHAMED are kept in a BOX 0 .. 2:"
                + " the week", KeepEdges::threeBoxes);
        edges.promise(41, "NONE if there is none such.", KeepEdges::imageRefused);
        edges.promise(42, "All is as it was kept (no ACTS are kept then): the week", KeepEdges::asItWasKept);
        edges.promise(42, "NONE, doing nothing, if nothing was.", KeepEdges::backRefused);
        edges.promise(43, "7: ACTS that can be undone, 8: redone, 9: REPORTS, 10: the TIME, 11: bytes on the TAPE, 12: units,"
                + " 13: how many lie there.", KeepEdges::leastAndMost);
        edges.promise(43, "NONE for another what.", KeepEdges::aboutRefused);
    }

    private static void none(Due due) {
        due.is("NONE", OvenNames.NONE, -1);
    }

    private static void newObject(Due due) {
        OvenNames x = new OvenNames();
        for (int what = 0; what < 14; what++) {
            due.is("about(" + what + ")", x.about(what), 0);
        }
        for (int what = 0; what < 10; what++) {
            due.is("soul(0, " + what + ")", x.soul(0, what), -2);
        }
        due.is("end(0)", x.end(0), 0);
        due.is("end(1)", x.end(1), -1);
        due.is("fault(0)", x.fault(0), 0);
        due.is("fault(1)", x.fault(1), -1);
        due.is("does(0, 0)", x.does(0, 0), -1);
        due.is("says(0, -1)", x.says(0, -1), -1);
        due.is("says(-1, -1)", x.says(-1, -1), -1);
        due.is("feud(0, 1)", x.feud(0, 1), -1);
        due.no("undo()", x.undo());
        due.no("redo()", x.redo());
        due.no("stone()", x.stone());
        due.yes("isSteady()", x.isSteady());
        due.is("claims(0)", x.claims(0), -1);
        due.is("makes(0, 10)", x.makes(0, 10), 0);
        due.is("wants(0, 0, 0)", x.wants(0, 0, 0), -1);
        due.is("warm(0, 0)", x.warm(0, 0), -1);
        due.is("will(0, 0)", x.will(0, 0), -1);
        due.is("soonest(0, 0)", x.soonest(0, 0), -1);
        due.is("lies(0)", x.lies(0), -2);
        due.no("untell(0)", x.untell(0));
        due.is("back(0)", x.back(0), -1);
        due.is("bread()", x.bread(), 0);
        due.is("image(0)", x.image(0), 1);
        due.is("back(0)", x.back(0), 1);
        // as if the empty text had been told
        OvenNames told = new OvenNames();
        due.is("village()", told.village(), 0);
        Sight.alike(due, "a new one", new OvenNames(), told);
    }

    private static void twentyBytes(Due due) {
        for (int at = 0; at < 20; at++) {
            for (int sign : new int[] {0, '$', 128, 255}) {
                int[] five = {BLANKS, BLANKS, BLANKS, BLANKS, BLANKS};
                int shift = 24 - at % 4 * 8;
                five[at / 4] = five[at / 4] & ~(255 << shift) | sign << shift;
                OvenNames x = new OvenNames();
                due.is("the first", x.feed(BLANKS, BLANKS, BLANKS, BLANKS, BLANKS), 20);
                due.is("the second", x.feed(five[0], five[1], five[2], five[3], five[4]), 40);
                due.is("village()", x.village(), -1);
                due.is("no TOKEN", x.fault(0), 1);
                due.is("its place", x.fault(1), 20 + at);
            }
        }
        OvenNames y = new OvenNames();
        due.is("heat 6;deed abcd;    ", y.feed(0x68656174, 0x20363b64, 0x65656420, 0x61626364, 0x3b202020), 20);
        due.is("village()", y.village(), 0);
        due.is("heat", y.about(3), 6);
        due.is("DEEDS", y.about(1), 1);
    }

    private static OvenNames fed(int feeds) {
        OvenNames x = new OvenNames();
        for (int i = 0; i < feeds; i++) {
            x.feed(BLANKS, BLANKS, BLANKS, BLANKS, BLANKS);
        }
        return x;
    }

    private static void feedRefused(Due due) {
        OvenNames x = fed(79);
        due.is("bytes", x.about(11), 1580);
        due.is("the last twenty", x.feed(0x68656174, 0x20363b0a, BLANKS, BLANKS, BLANKS), 1600);
        due.is("more", x.feed(-1, -1, -1, -1, -1), -1);
        due.is("more of nothing", x.feed(0, 0, 0, 0, 0), -1);
        due.is("bytes", x.about(11), 1600);
        due.is("village()", x.village(), 0);
        due.is("nothing came", x.about(3), 6);
        for (int kept = 1581; kept < 1600; kept++) {
            OvenNames y = fed(80);
            y.end(kept);
            due.is("more than 1,600", y.feed(-1, -1, -1, -1, -1), -1);
            due.is("bytes", y.about(11), kept);
            due.is("nothing came", y.village(), 0);
        }
        OvenNames z = fed(80);
        z.end(1580);
        due.is("just 1,600", z.feed(-1, -1, -1, -1, -1), 1600);
        due.is("they came", z.village(), -1);
        due.is("behind those that stayed", z.fault(1), 1580);
        due.is("empty again", z.feed(0, 0, 0, 0, 0), 20);
        // all else stays too
        OvenNames one = Sight.rich();
        OvenNames other = Sight.rich();
        for (int i = 0; i < 78; i++) {
            one.feed(BLANKS, BLANKS, BLANKS, BLANKS, BLANKS);
            other.feed(BLANKS, BLANKS, BLANKS, BLANKS, BLANKS);
        }
        due.is("1,583 and 20", one.feed(-1, -1, -1, -1, -1), -1);
        Sight.alike(due, "feed() of too many", one, other);
    }

    private static void firstBytes(Due due) {
        OvenNames x = fed(80);
        due.is("all", x.end(1600), 1600);
        due.is("one less", x.end(1599), 1599);
        due.is("not again", x.end(1600), -1);
        due.is("one", x.end(1), 1);
        due.is("none", x.end(0), 0);
        due.is("none again", x.end(0), 0);
        due.is("bytes", x.about(11), 0);
        Due.put(x, "heat 6;heat 7;");
        x.end(7);
        due.is("village() of the first 7", x.village(), 0);
        due.is("heat", x.about(3), 6);
        // what comes next comes behind the first n
        Due.put(x, "heat 1$$$");
        x.end(6);
        Due.put(x, ";draw 5;");
        due.is("village()", x.village(), 0);
        due.is("draw", x.about(4), 5);
    }

    private static void endRefused(Due due) {
        for (int n : new int[] {LOW, -20, -1, 24, 25, 40, 1600, 1601, HIGH}) {
            Sight.refuses(due, "end(" + n + ")", x -> x.end(n), -1);
        }
        due.is("just so many", Sight.rich().end(23), 23);
        due.is("of 1,600", fed(80).end(1601), -1);
        due.is("of none", new OvenNames().end(1), -1);
    }

    private static void tapeEmptyThen(Due due) {
        OvenNames x = new OvenNames();
        Due.put(x, "heat 6;");
        due.is("village()", x.village(), 0);
        due.is("bytes", x.about(11), 0);
        due.is("end(1)", x.end(1), -1);
        due.is("village() of nothing", x.village(), 0);
        due.is("heat of nothing", x.about(3), 0);
        OvenNames y = fed(80);
        y.village();
        due.is("bytes of a full one", y.about(11), 0);
        due.is("twenty may come", y.feed(BLANKS, BLANKS, BLANKS, BLANKS, BLANKS), 20);
        // what stood there comes to light by no call
        Due.put(x, "heat 6;draw 8;");
        x.village();
        Due.put(x, "heat 5;");
        due.is("village()", x.village(), 0);
        due.is("draw", x.about(4), 0);
    }

    private static void allAnew(Due due) {
        OvenNames x = Sight.rich();
        x.end(0);
        Due.put(x, Sight.VILLAGE);
        due.is("village()", x.village(), 3);
        OvenNames fresh = Due.village(Sight.VILLAGE);
        fresh.later(Sight.TIME);
        Sight.alike(due, "told again", x, fresh);
        // the first ACT is taken back to what was told
        OvenNames w = Sight.rich();
        w.end(0);
        Due.put(w, Sight.VILLAGE);
        w.village();
        w.bread();
        w.undo();
        due.is("week", w.about(5), 0);
        due.is("SEED", w.about(4), 9);
        due.is("heat", w.about(3), 2);
        due.is("FEUDS", w.about(2), 1);
        due.is("stay", w.soul(1, 3), 3);
        due.is("old", w.soul(1, 4), 0);
        due.is("says", w.soul(1, 2), -1);
        OvenNames y = Sight.rich();
        y.end(0);
        due.is("village() of nothing", y.village(), 0);
        OvenNames empty = new OvenNames();
        empty.later(Sight.TIME);
        Sight.alike(due, "empty", y, empty);
        String text = "";
        for (int souls = 1; souls <= 5; souls++) {
            text += "soul " + "abcde".charAt(souls - 1) + " needs 1;";
            OvenNames z = new OvenNames();
            Due.put(z, text);
            due.is("how many SOULS", z.village(), souls);
        }
    }

    private static void allStays(Due due) {
        // the latest village() of a rich one has FAULT 4 at 5 already
        for (String text : new String[] {"heat 10;", "draw 1000;", "heat 99;soul a needs 1;", "draw 9999"}) {
            OvenNames x = Sight.rich();
            x.end(0);
            Due.put(x, text);
            due.is("village() of " + text, x.village(), -1);
            due.is("the TAPE is empty then", x.about(11), 0);
            OvenNames other = Sight.rich();
            other.end(0);
            Sight.alike(due, "behind " + text, x, other);
        }
        // also what stands ahead of the FAULT is not taken
        OvenNames y = Sight.rich();
        y.end(0);
        Due.put(y, "deed z;soul z needs 44 stays 55;heat 6;draw 77;loaf 88;$");
        due.is("village()", y.village(), -1);
        due.is("no TOKEN", y.fault(0), 1);
        due.is("SOULS", y.about(0), 3);
        due.is("needs", y.soul(0, 0), 5);
        due.is("units", y.about(12), 6);
        due.is("LOAF", y.soul(0, 5), Sight.rich().soul(0, 5));
        due.is("makes", y.makes(1, 88), 0);
        due.is("back(0)", y.back(0), 1);
        due.is("back(1)", y.back(1), -1);
        // nor does it go into the next text
        for (String bad : new String[] {"loaf (((((((1+2", "loaf not not not not not not not 1 or", "loaf 1 or 2<(",
            "loaf 1<", "loaf 1;heat 1;draw 1;deed a;soul a needs 1 stays 2;x"}) {
            OvenNames z = new OvenNames();
            String[] next = {"soul a needs 1;loaf (((((((3)))))))*2 or not not not not not not not 0;", "soul a needs 1;loaf 2<3;"};
            for (String text : next) {
                Due.put(z, bad);
                due.is("village() of " + bad, z.village(), -1);
                Due.put(z, text);
                due.is("village() behind " + bad, z.village(), 1);
                due.is("LOAF behind " + bad, z.soul(0, 5), 1);
                due.is("stay behind " + bad, z.soul(0, 3), 0);
                due.is("heat behind " + bad, z.about(3), 0);
            }
            Due.put(z, bad);
            z.village();
            Due.put(z, "loaf 1);");
            due.is("a bracket behind " + bad, z.village(), -1);
            due.is("a bracket behind " + bad, z.fault(1), 6);
        }
    }

    private static void faultOrNone(Due due) {
        OvenNames x = new OvenNames();
        due.is("before any", x.fault(0), 0);
        due.is("before any", x.fault(1), -1);
        String[] texts = {"$", "deed a;x", "deed a;deed a;", "heat 77;", "loaf q;"};
        int[] places = {0, 7, 12, 5, 5};
        for (int i = 0; i < texts.length; i++) {
            Due.put(x, texts[i]);
            x.village();
            due.is("FAULT", x.fault(0), i + 1);
            due.is("its place", x.fault(1), places[i]);
            // another call does not change it
            x.feed(0, 0, 0, 0, 0);
            x.end(0);
            x.bread();
            due.is("FAULT still", x.fault(0), i + 1);
            due.is("its place still", x.fault(1), places[i]);
        }
        x.village();
        due.is("of the latest", x.fault(0), 0);
        due.is("of the latest", x.fault(1), -1);
    }

    private static void faultRefused(Due due) {
        for (int what : new int[] {LOW, -2, -1, 2, 3, HIGH}) {
            due.is("of a new one", new OvenNames().fault(what), -1);
            Sight.refuses(due, "fault(" + what + ")", x -> x.fault(what), -1);
        }
        due.is("of a rich one", Sight.rich().fault(0), 4);
    }

    private static void threeBoxes(Due due) {
        OvenNames x = Due.village("deed a;soul p needs 0;soul q needs 1;loaf 3+a;draw 5;");
        for (int box = 0; box < 3; box++) {
            x.bread();
            x.does(0, 0);
            x.says(1, 0);
            x.feud(0, 1);
            due.is("image", x.image(box), box + 1);
        }
        x.bread();
        due.is("week", x.about(5), 4);
        int[] feuds = {1, 0, 1};
        int[] seeds = {756, 643, 162};
        for (int box : new int[] {2, 0, 1, 0, 2}) {
            due.is("back", x.back(box), box + 1);
            due.is("week", x.about(5), box + 1);
            due.is("FEUDS", x.about(2), feuds[box]);
            due.is("SEED", x.about(4), seeds[box]);
            due.is("heat", x.about(3), seeds[box] % 10);
            due.is("DEEDS", x.soul(0, 1), 1);
            due.is("SAYINGS", x.soul(1, 2), 0);
            due.is("stay", x.soul(0, 3), box + 1);
            due.is("old", x.soul(0, 4), box == 0 ? 3 : 4);
            due.is("FED", x.soul(0, 7), box + 1);
            due.is("SHAMED", x.soul(1, 8), box);
            x.bread();
            x.feud(0, 1);
        }
        // a BOX holds the latest image
        due.is("image", x.image(1), 4);
        x.bread();
        due.is("back", x.back(1), 4);
        due.is("of the others", x.back(0), 1);
    }

    private static void imageRefused(Due due) {
        for (int box : new int[] {LOW, -2, -1, 3, 4, 32, HIGH}) {
            Sight.refuses(due, "image(" + box + ")", x -> x.image(box), -1);
        }
        // nothing but the BOX is changed by an image
        OvenNames one = Sight.rich();
        OvenNames other = Sight.rich();
        due.is("image", one.image(1), 1);
        due.is("ACTS that can be undone", one.about(7), other.about(7));
        due.is("ACTS that can be done again", one.about(8), other.about(8));
        due.yes("redo", one.redo());
        due.is("back", one.back(1), 1);
    }

    private static void asItWasKept(Due due) {
        OvenNames x = Sight.rich();
        due.is("ACTS ahead", x.about(7), 5);
        due.is("ACTS ahead", x.about(8), 2);
        due.is("back", x.back(0), 1);
        due.is("no ACTS", x.about(7), 0);
        due.is("no ACTS", x.about(8), 0);
        due.no("undo", x.undo());
        due.no("redo", x.redo());
        due.is("DEEDS", x.soul(1, 1), 0);
        due.is("says", x.soul(2, 2), -1);
        due.is("FEUDS", x.about(2), 1);
        // what is not kept stays: REPORTS, the TIME, the TAPE, what lies there, the FAULT
        due.is("REPORTS", x.about(9), 2);
        due.is("TIME", x.about(10), Sight.TIME);
        due.is("bytes", x.about(11), 23);
        due.is("what lies there", x.about(13), 3);
        due.is("FAULT", x.fault(0), 4);
        // it can be gone back to again, and from another one
        due.is("back", x.back(2), 1);
        due.is("FEUDS", x.about(2), 2);
        due.is("says", x.soul(2, 2), 1);
        due.is("back", x.back(0), 1);
        due.is("FEUDS", x.about(2), 1);
        x.does(0, 0);
        due.is("an ACT behind it", x.about(7), 1);
        due.yes("undo", x.undo());
        due.no("no more", x.undo());
        due.is("taken back to the image: DEEDS", x.soul(0, 1), 0);
        due.is("taken back to the image: week", x.about(5), 1);
        due.is("taken back to the image: SEED", x.about(4), 304);
        due.is("taken back to the image: FEUDS", x.about(2), 1);
        due.is("taken back to the image: says", x.soul(0, 2), -1);
        due.is("taken back to the image: SHAMED", x.soul(0, 8), 1);
        due.is("taken back to the image: old", x.soul(1, 4), 9);
        due.is("the BOX is what it was", x.back(0), 1);
        due.is("DEEDS", x.soul(0, 1), 0);
    }

    private static void backRefused(Due due) {
        for (int box : new int[] {LOW, -2, -1, 1, 3, 4, 32, HIGH}) {
            Sight.refuses(due, "back(" + box + ")", x -> x.back(box), -1);
        }
        OvenNames x = new OvenNames();
        for (int box = 0; box < 3; box++) {
            due.is("nothing was", x.back(box), -1);
            x.image(box);
            due.is("week 0", x.back(box), 0);
        }
        x.village();
        for (int box = 0; box < 3; box++) {
            due.is("of another VILLAGE", x.back(box), -1);
        }
    }

    private static void leastAndMost(Due due) {
        String full = "deed a;deed b;deed c;deed d;deed e;soul a needs 1;soul b needs 2;soul c needs 3;soul d needs 4;"
                + "soul e needs 5;feud a with b;feud a with c;feud a with d;feud a with e;feud b with c;feud b with d;"
                + "feud b with e;feud c with d;feud c with e;feud d with e;heat 9;draw 999;loaf 1" + "+1".repeat(29) + ";";
        OvenNames x = Due.village(full);
        for (int i = 0; i < 30; i++) {
            x.report(0, 0, 0, 0);
        }
        for (int i = 0; i < 100; i++) {
            x.later(1000);
        }
        for (int i = 0; i < 80; i++) {
            x.feed(0, 0, 0, 0, 0);
        }
        x.richest();
        for (int i = 0; i < 41; i++) {
            x.says(i % 5, 4);
        }
        int[] most = {5, 5, 10, 9, 999, 0, 5, 40, 0, 30, 100000, 1600, 30, 5};
        for (int what = 0; what < most.length; what++) {
            due.is("about(" + what + ")", x.about(what), most[what]);
        }
        for (int i = 0; i < 40; i++) {
            x.undo();
        }
        due.is("undone", x.about(7), 0);
        due.is("redone", x.about(8), 40);
        x.bread();
        due.is("undone", x.about(7), 1);
        due.is("redone", x.about(8), 0);
        due.is("who say a NAME", x.about(6), 0);
        x.feeds(-1);
        due.is("nothing lies there", x.about(13), 0);
    }

    private static void aboutRefused(Due due) {
        for (int what : new int[] {LOW, -2, -1, 14, 15, 32, HIGH}) {
            due.is("of a new one", new OvenNames().about(what), -1);
            Sight.refuses(due, "about(" + what + ")", x -> x.about(what), -1);
        }
    }
}
