import java.util.ArrayList;
import java.util.List;
import java.util.function.Consumer;
import java.util.function.ToIntFunction;

/** All that can be seen of an object, also by going back, going on and reading the TAPE. */
final class Sight {
    static final int LOW = Integer.MIN_VALUE;
    static final int HIGH = Integer.MAX_VALUE;
    static final String VILLAGE = "deed lie;deed help;soul ann needs 5;soul bob needs 8 stays 3;soul cid needs 0;"
            + "feud ann with bob;loaf 6+help*8-lie*5+stay;heat 2;draw 9;";
    /** The TIME of a rich object. */
    static final int TIME = 6;
    private static final int[] CHANGING = {1, 2, 3, 4, 7, 8, 9};
    private static final int[] CHANGING_ABOUT = {2, 3, 4, 5, 7, 8};

    private final OvenNames x;
    private final List<Integer> seen = new ArrayList<>();

    private Sight(OvenNames x) {
        this.x = x;
    }

    /** An object in which there is something of each sort: 5 ACTS to undo, 2 to redo, BOX 1 is empty. */
    static OvenNames rich() {
        OvenNames x = Due.village(VILLAGE);
        x.later(3);
        x.report(0, 0, 0, 6);
        x.later(2);
        x.report(0, 0, 1, 14);
        x.untell(0);
        x.later(1);
        x.says(0, 1);
        x.bread();
        x.image(0);
        x.does(1, 1);
        x.says(2, 1);
        x.feud(0, 2);
        x.image(2);
        x.does(0, 0);
        x.bread();
        x.undo();
        x.undo();
        Due.put(x, "heat 10;");
        x.village();
        x.pairs();
        Due.put(x, "soul q needs 7;loaf 41;");
        return x;
    }

    /** The call is answered so, and all stays as it was. */
    static void refuses(Due due, String call, ToIntFunction<OvenNames> refused, int want) {
        OvenNames x = rich();
        due.is(call, refused.applyAsInt(x), want);
        alike(due, call, x, rich());
    }

    /** All stays as it was but what lies there: that is nothing then. */
    static void leavesNothing(Due due, String call, ToIntFunction<OvenNames> refused, int want) {
        OvenNames x = rich();
        due.is(call, refused.applyAsInt(x), want);
        due.lie(call, x);
        x.pairs();
        alike(due, call, x, rich());
    }

    /** Nothing is done by the call: all stays as it was but what lies there. */
    static void onlyLooks(Due due, String call, Consumer<OvenNames> look) {
        OvenNames x = rich();
        look.accept(x);
        x.pairs();
        alike(due, call, x, rich());
    }

    static void alike(Due due, String call, OvenNames one, OvenNames other) {
        List<Integer> first = all(one);
        List<Integer> second = all(other);
        due.is(call + ": as much can be seen", first.size(), second.size());
        for (int i = 0; i < Math.min(first.size(), second.size()); i++) {
            if (!first.get(i).equals(second.get(i))) {
                due.is(call + ": what is seen, " + i, first.get(i), second.get(i));
                return;
            }
        }
    }

    /** Some hundreds of calls; the object is not what it was behind them. */
    static List<Integer> all(OvenNames x) {
        Sight sight = new Sight(x);
        sight.lookAtAll();
        for (int k = 0; k <= x.about(10) + 1; k += k < 8 ? 1 : x.about(10)) {
            sight.seen.add(x.sets(k));
        }
        for (int i = 0; i < 41 && x.undo(); i++) {
            sight.lookAtState();
        }
        for (int i = 0; i < 41 && x.redo(); i++) {
            sight.lookAtState();
        }
        for (int box = 0; box < 3; box++) {
            sight.seen.add(x.back(box));
            sight.lookAtState();
        }
        sight.seen.add(x.village());
        sight.lookAtAll();
        return sight.seen;
    }

    private void lookAtAll() {
        for (int what = 0; what < 14; what++) {
            seen.add(x.about(what));
        }
        for (int soul = 0; soul < x.about(0); soul++) {
            for (int what = 0; what < 10; what++) {
                seen.add(x.soul(soul, what));
            }
            seen.add(x.lies(soul));
        }
        seen.add(x.fault(0));
        seen.add(x.fault(1));
    }

    private void lookAtState() {
        for (int what : CHANGING_ABOUT) {
            seen.add(x.about(what));
        }
        for (int soul = 0; soul < x.about(0); soul++) {
            for (int what : CHANGING) {
                seen.add(x.soul(soul, what));
            }
        }
    }
}
