/** Compares answers with those that are due, and counts the wrong ones. */
final class Due {
    private final String what;
    private int checked;
    private int wrong;

    Due(String what) {
        this.what = what;
    }

    void is(String call, long got, long want) {
        checked++;
        if (got != want) {
            wrong++;
            System.out.println(what + ": " + call + " answered " + got + ", due is " + want);
        }
    }

    void yes(String call, boolean got) {
        is(call, got ? 1 : 0, 1);
    }

    void no(String call, boolean got) {
        is(call, got ? 1 : 0, 0);
    }

    /** What lies there, and nothing more. */
    void lie(String call, OvenNames x, int... want) {
        is(call + " about(13)", x.about(13), want.length);
        for (int i = 0; i < want.length; i++) {
            is(call + " lies(" + i + ")", x.lies(i), want[i]);
        }
        is(call + " lies(" + want.length + ")", x.lies(want.length), -2);
    }

    int wrong() {
        return wrong;
    }

    int checked() {
        return checked;
    }

    void finish() {
        System.out.println(what + ": " + checked + " answers, " + wrong + " not as due");
        if (wrong != 0) {
            System.exit(1);
        }
    }

    /** Puts a text on the TAPE of an object, behind what is there. */
    static void put(OvenNames x, String text) {
        int before = x.about(11);
        for (int at = 0; at < text.length(); at += 20) {
            int[] five = new int[5];
            for (int i = 0; i < 20; i++) {
                int sign = at + i < text.length() ? text.charAt(at + i) & 255 : 0;
                five[i / 4] |= sign << (24 - i % 4 * 8);
            }
            x.feed(five[0], five[1], five[2], five[3], five[4]);
        }
        x.end(before + text.length());
    }

    static OvenNames village(String text) {
        OvenNames x = new OvenNames();
        put(x, text);
        if (x.village() == OvenNames.NONE) {
            throw new IllegalStateException("fault " + x.fault(0) + " at " + x.fault(1) + " in " + text);
        }
        return x;
    }
}
