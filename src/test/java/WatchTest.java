/** Promises 37 to 39: lines that are seen to, how seldom, and by waking. */
public final class WatchTest {
    public static void main(String[] arguments) {
        watch();
        seldom();
        wake();
        refusals();
        Check.finish();
    }

    /**
     * Good LENGTHS of boat 0: 0 .. 20 where TIDE is 38, 18 .. 27 where it is 20, 26 .. 33 where it is
     * 12, 33 .. 39 where it is 5. Of boat 1 one is good where TIDE is 38, none where it is 20: from 27
     * on it does not hang, to 26 it is not too far.
     */
    private static HangsAtLowWater watched(String tides) {
        return Check.told("r2040;r6038;b0000401020;b1001401000;", tides);
    }

    private static HangsAtLowWater day() {
        return watched("t0138;t0612;");
    }

    private static void watch() {
        HangsAtLowWater x = day();
        int[] changes = {4, 2, 2, 2, 2, 1};
        for (int k = 1; k <= 6; k++) {
            Check.due("watch(0, " + k + ")", x.watch(0, k), changes[k - 1]);
            Check.due("watch(1, " + k + ")", x.watch(1, k), -9);
        }
        Check.due("its length stays", x.boat(0, 4), 40);
        HangsAtLowWater y = watched("t0138;t0412;");
        int[] others = {4, 2, 2, 2, -9, -9};
        for (int k = 1; k <= 6; k++) {
            Check.due("closer: watch(0, " + k + ")", y.watch(0, k), others[k - 1]);
        }
        Check.due("the last hours: watch(0, 5)", watched("t1012;t1105;").watch(0, 5), 1);
    }

    private static void seldom() {
        Check.due("seldom, never crossed", day().seldom(0), 6);
        Check.due("seldom, crossed at 1 and 4", watched("t0138;t0412;").seldom(0), 4);
        Check.due("seldom, crossed at once", watched("t0138;t0212;").seldom(0), 2);
        Check.due("seldom, crossed at 0 and 1", watched("t0005;t0138;").seldom(0), 1);
        Check.due("seldom, no length is good", day().seldom(1), -9);
    }

    private static void wake() {
        HangsAtLowWater x = watched("t0005;t0138;t0612;");
        int[] hours = {10, 11, 12, 12};
        for (int n = 0; n <= 3; n++) {
            Check.due("wake(0, " + n + ")", x.wake(0, n), hours[n]);
            Check.due("wake(1, " + n + ")", x.wake(1, n), 1);
        }
        // Two hours low, two high, all day: only every other waking is worth two hours.
        HangsAtLowWater y = watched("t0005;t0105;t0238;t0338;t0405;t0505;t0638;t0738;t0805;t0905;t1038;t1138;");
        int[] saved = {6, 8, 8, 10};
        for (int n = 0; n <= 3; n++) {
            Check.due("to and fro: wake(0, " + n + ")", y.wake(0, n), saved[n]);
        }
    }

    private static void refusals() {
        Check.refused(WatchTest::day, "watch(2, 0)", -1, x -> x.watch(2, 0));
        Check.refused(WatchTest::day, "watch(0, 0)", -4, x -> x.watch(0, 0));
        Check.refused(WatchTest::day, "watch(0, 7)", -6, x -> x.watch(0, 7));
        Check.refused(WatchTest::day, "seldom(2)", -1, x -> x.seldom(2));
        Check.refused(WatchTest::day, "seldom(-1)", -1, x -> x.seldom(-1));
        Check.refused(WatchTest::day, "wake(2, -1)", -1, x -> x.wake(2, -1));
        Check.refused(WatchTest::day, "wake(0, -1)", -4, x -> x.wake(0, -1));
        Check.refused(WatchTest::day, "wake(0, 4)", -6, x -> x.wake(0, 4));
    }
}
