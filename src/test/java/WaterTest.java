/** Promises 23, 24, 32, 34 to 36 and 40 to 45: mud, seeds, springs, ramps and a gate. */
public final class WaterTest {
    public static void main(String[] arguments) {
        mudAndCarry();
        seeds();
        swells();
        fortnight();
        ramps();
        bridge();
        gate();
        refusals();
        Check.finish();
    }

    private static HangsAtLowWater water() {
        return Check.told("t0005;t0138;t0612;r2040;b0000201020;");
    }

    private static void mudAndCarry() {
        HangsAtLowWater x = water();
        Check.due("mud(4, 0)", x.mud(4, 0), 0);
        Check.due("mud(5, 0)", x.mud(5, 0), 1);
        Check.due("mud(20, 1)", x.mud(20, 1), 1);
        Check.due("mud(20, 2)", x.mud(20, 2), 1);
        Check.due("mud(37, 11)", x.mud(37, 11), 1);
        Check.due("mud(38, 0)", x.mud(38, 0), -9);
        Check.due("mud(40, 0)", x.mud(40, 0), -9);
        Check.due("mud(12, 6)", x.mud(12, 6), 7);
        Check.due("carry(0, 0, 1)", x.carry(0, 0, 1), 5);
        Check.due("carry(10, 0, 1)", x.carry(10, 0, 1), 10);
        Check.due("carry(37, 0, 1)", x.carry(37, 0, 1), 37);
        Check.due("carry(38, 0, 1)", x.carry(38, 0, 1), -9);
        Check.due("carry(0, 2, 6)", x.carry(0, 2, 6), -9);
        Check.due("carry(0, 6, 7)", x.carry(0, 6, 7), 12);
        Check.due("carry(0, 6, 8)", x.carry(0, 6, 8), -9);
        Check.due("carry(0, 11, 1)", x.carry(0, 11, 1), 20);
        Check.due("carry(0, 2, 1)", x.carry(0, 2, 1), 20);
        Check.due("carry(40, 2, 1)", x.carry(40, 2, 1), -9);
    }

    /** Whether a TIE of 20 feet hangs at each tide that a seed draws, by longs. */
    private static void seeds(int z, int n, int length) {
        HangsAtLowWater x = water();
        x.pay(0, length);
        long seed = z;
        int together = 0;
        int never = 0;
        for (int i = 0; i < n; i++) {
            int hanging = 0;
            for (int hour = 0; hour < 12; hour++) {
                seed = (seed * 1103515245L + 12345L) & 0xffffffffL;
                long tide = ((seed & 0x7fffffffL) >> 16) % 41;
                if (length < Math.abs(40 - 2 - tide)) {
                    hanging++;
                }
            }
            together += hanging;
            never += hanging == 0 ? 1 : 0;
        }
        String call = "seeds(0, " + n + ", " + z;
        Check.due(call + ", 0)", x.seeds(0, n, z, 0), together);
        Check.due(call + ", 1)", x.seeds(0, n, z, 1), never);
        Check.due("the tides stay", x.tide(0), 5);
    }

    private static void seeds() {
        int[] starts = {0, 1, -1, 12345, Integer.MIN_VALUE, Integer.MAX_VALUE};
        for (int z : starts) {
            seeds(z, 1, 20);
            seeds(z, 20, 20);
            seeds(z, 20, 36);
            seeds(z, 7, 33);
        }
        HangsAtLowWater x = water();
        // The first draw of seed 0 is 0 (12345 is below 65536): there 37 feet are one too few.
        x.pay(0, 37);
        int before = x.seeds(0, 1, 0, 0);
        x.pay(0, 38);
        Check.due("38 feet never hang", x.seeds(0, 20, 0, 0), 0);
        Check.due("tides in which they never do", x.seeds(0, 20, 0, 1), 20);
        Check.due("37 feet hang once or more", Math.min(1, before), 1);
    }

    private static void swells() {
        HangsAtLowWater x = water();
        Check.due("spring(3)", x.spring(3), 0);
        Check.due("spring(3) again", x.spring(3), 3);
        Check.due("count(9)", x.count(9), 3);
        int[] by = {3, 2, 2, 1, 1, 0, 0, 0, 0, 0, 1, 1, 2, 2};
        for (int day = 0; day < 14; day++) {
            Check.due("below 20 on " + day, x.swells(6, day), 12 - by[day]);
            Check.due("above 20 on " + day, x.swells(1, day), Math.min(40, 38 + by[day]));
            Check.due("20 on " + day, x.swells(2, day), 20);
        }
        Check.due("spring(9)", x.spring(9), 3);
        Check.due("held at 0", x.swells(0, 0), 0);
        Check.due("held at 40", x.swells(1, 0), 40);
        Check.due("spring(0)", x.spring(0), 9);
        Check.due("none", x.swells(1, 0), 38);
        x.spring(9);
        x.rises(3, 21);
        x.rises(4, 19);
        Check.due("21 on day 0", x.swells(3, 0), 30);
        Check.due("19 on day 13", x.swells(4, 13), 12);
        Check.due("the tide stays", x.tide(3), 21);
    }

    private static void fortnight() {
        HangsAtLowWater x = Check.told("r2040;b0000201020;t0319;b5900201020;");
        Check.due("no spring", x.fortnight(0, 0), 0);
        Check.due("no spring: the first", x.fortnight(0, 1), -9);
        Check.due("no spring: the least", x.fortnight(0, 2), 19);
        x.spring(9);
        Check.due("days", x.fortnight(0, 0), 16383 - 64 - 128 - 256);
        Check.due("the first", x.fortnight(0, 1), 0);
        Check.due("the least", x.fortnight(0, 2), 28);
        Check.due("legs: the least", x.fortnight(1, 2), 28);
        x.rises(3, 18);
        Check.due("legs on the ground on day 0: the least", x.fortnight(1, 2), 27);
        x.rises(0, 0);
        Check.due("the worst at hour 0", x.fortnight(0, 2), 38);
        HangsAtLowWater z = Check.told("r2022;b0000001099;");
        Check.due("no line is needed", z.fortnight(0, 2), 0);
        HangsAtLowWater y = Check.told("r2040;b0000101020;");
        for (int hour = 0; hour < 12; hour++) {
            y.rises(hour, 24);
        }
        y.spring(9);
        Check.due("neaps", y.fortnight(0, 0), 2032);
        Check.due("neaps: the first", y.fortnight(0, 1), 4);
        Check.due("neaps: the least", y.fortnight(0, 2), 14);
    }

    private static HangsAtLowWater ramped() {
        HangsAtLowWater x = water();
        Check.due("ramp(30, 20)", x.ramp(30, 20), 0);
        Check.due("ramp(0, 40)", x.ramp(0, 40), 1);
        Check.due("ramp(60, 1)", x.ramp(60, 1), 2);
        return x;
    }

    private static void ramps() {
        HangsAtLowWater x = ramped();
        Check.due("count(10)", x.count(10), 3);
        Check.due("slope(0, 0)", x.slope(0, 0), 125);
        Check.due("slope(0, 1)", x.slope(0, 1), 40);
        Check.due("slope(1, 0)", x.slope(1, 0), 12);
        Check.due("slope(2, 0)", x.slope(2, 0), 5500);
        Check.due("open(0, 50)", x.open(0, 50), 4095 - 1 - 64);
        Check.due("open(0, 49)", x.open(0, 49), 2);
        Check.due("open(0, 39)", x.open(0, 39), 0);
        Check.due("open(0, 999)", x.open(0, 999), 4095);
        Check.due("open(2, 999)", x.open(2, 999), 0);
        Check.due("open(1, 12)", x.open(1, 12), 1);
        Check.due("open(0, 0)", x.open(0, 0), 0);
        x.rises(4, 30);
        Check.due("open(0, 0) where it is as high", x.open(0, 0), 16);
    }

    private static void bridge() {
        HangsAtLowWater x = water();
        Check.due("bridge(30, 50, 0)", x.bridge(30, 50, 0), 1);
        Check.due("bridge(30, 50, 1)", x.bridge(30, 50, 1), 16);
        Check.due("bridge(30, 50, 2)", x.bridge(30, 50, 2), 20);
        Check.due("bridge(30, 50, 10)", x.bridge(30, 50, 10), 20);
        Check.due("bridge(30, 50, 11)", x.bridge(30, 50, 11), 36);
        Check.due("bridge(30, 50, 12)", x.bridge(30, 50, 12), -9);
        Check.due("bridge(30, 62, 12)", x.bridge(30, 62, 12), 40);
        Check.due("bridge(20, 0, 9)", x.bridge(20, 0, 9), 1);
        Check.due("bridge(20, 0, 10)", x.bridge(20, 0, 10), -9);
        Check.due("bridge(60, 999, 12)", x.bridge(60, 999, 12), 6);
        Check.due("bridge(0, 0, 1)", x.bridge(0, 0, 1), -9);
    }

    private static HangsAtLowWater waiting(int... hours) {
        HangsAtLowWater x = water();
        for (int hour : hours) {
            x.row(hour);
        }
        return x;
    }

    private static void gate() {
        HangsAtLowWater x = waiting(0, 2, 6);
        Check.due("passes(0, 5, 0)", x.passes(0, 5, 0), 0);
        Check.due("passes(0, 6, 0)", x.passes(0, 6, 0), 1);
        Check.due("passes(30, 8, 2)", x.passes(30, 8, 2), 1);
        Check.due("passes(30, 9, 2)", x.passes(30, 9, 2), -9);
        Check.due("passes(20, 0, 11)", x.passes(20, 0, 11), 11);
        Check.due("passes(40, 9, 11)", x.passes(40, 9, 11), -9);
        Check.due("waited(20, 0)", x.waited(20, 0), 1 + 0 + 1);
        Check.due("waited(20, 1)", x.waited(20, 1), 1 + 11 + 7);
        Check.due("waited(0, 0)", x.waited(0, 0), 0);
        Check.due("waited(30, 9)", x.waited(30, 9), -9);
        Check.due("the row stays", x.count(8), 3);
        HangsAtLowWater y = waiting(11, 11);
        Check.due("two wait together", y.waited(20, 9), 4);
        Check.due("none waits", water().waited(40, 9), 0);
    }

    private static void refusals() {
        Check.refused(WaterTest::water, "mud(-1, 12)", -4, x -> x.mud(-1, 12));
        Check.refused(WaterTest::water, "mud(41, 12)", -6, x -> x.mud(41, 12));
        Check.refused(WaterTest::water, "mud(40, 12)", -1, x -> x.mud(40, 12));
        Check.refused(WaterTest::water, "mud(0, -1)", -1, x -> x.mud(0, -1));
        Check.refused(WaterTest::water, "carry(-1, 0, 0)", -4, x -> x.carry(-1, 0, 0));
        Check.refused(WaterTest::water, "carry(41, 0, 0)", -6, x -> x.carry(41, 0, 0));
        Check.refused(WaterTest::water, "carry(0, 3, 3)", -1, x -> x.carry(0, 3, 3));
        Check.refused(WaterTest::water, "carry(0, 12, 3)", -1, x -> x.carry(0, 12, 3));
        Check.refused(WaterTest::water, "carry(0, 3, -1)", -1, x -> x.carry(0, 3, -1));
        Check.refused(WaterTest::water, "seeds(1, 0, 0, 2)", -1, x -> x.seeds(1, 0, 0, 2));
        Check.refused(WaterTest::water, "seeds(0, 0, 0, 2)", -4, x -> x.seeds(0, 0, 0, 2));
        Check.refused(WaterTest::water, "seeds(0, 21, 0, 2)", -6, x -> x.seeds(0, 21, 0, 2));
        Check.refused(WaterTest::water, "seeds(0, 20, 0, 2)", -2, x -> x.seeds(0, 20, 0, 2));
        Check.refused(WaterTest::water, "seeds(0, 1, 0, -1)", -2, x -> x.seeds(0, 1, 0, -1));
        Check.refused(WaterTest::water, "spring(-1)", -4, x -> x.spring(-1));
        Check.refused(WaterTest::water, "spring(10)", -6, x -> x.spring(10));
        Check.refused(WaterTest::water, "swells(12, -1)", -1, x -> x.swells(12, -1));
        Check.refused(WaterTest::water, "swells(0, -1)", -4, x -> x.swells(0, -1));
        Check.refused(WaterTest::water, "swells(0, 14)", -6, x -> x.swells(0, 14));
        Check.refused(WaterTest::water, "fortnight(1, 3)", -1, x -> x.fortnight(1, 3));
        Check.refused(WaterTest::water, "fortnight(0, 3)", -2, x -> x.fortnight(0, 3));
        Check.refused(WaterTest::water, "fortnight(0, -1)", -2, x -> x.fortnight(0, -1));
        rampRefusals();
        gateRefusals();
    }

    private static void rampRefusals() {
        Check.refused(WaterTest::water, "ramp(-1, 41)", -4, x -> x.ramp(-1, 41));
        Check.refused(WaterTest::water, "ramp(61, 0)", -4, x -> x.ramp(61, 0));
        Check.refused(WaterTest::water, "ramp(61, 1)", -6, x -> x.ramp(61, 1));
        Check.refused(WaterTest::water, "ramp(0, 41)", -6, x -> x.ramp(0, 41));
        Check.refused(WaterTest::ramped, "ramp(1, 1)", -6, x -> x.ramp(1, 1));
        Check.refused(WaterTest::ramped, "slope(3, 0)", -1, x -> x.slope(3, 0));
        Check.refused(WaterTest::ramped, "slope(-1, 0)", -1, x -> x.slope(-1, 0));
        Check.refused(WaterTest::ramped, "slope(0, 12)", -1, x -> x.slope(0, 12));
        Check.refused(WaterTest::ramped, "open(3, -1)", -1, x -> x.open(3, -1));
        Check.refused(WaterTest::ramped, "open(0, -1)", -4, x -> x.open(0, -1));
        Check.refused(WaterTest::ramped, "open(0, 1000)", -6, x -> x.open(0, 1000));
        Check.refused(WaterTest::water, "bridge(-1, 1000, 0)", -4, x -> x.bridge(-1, 1000, 0));
        Check.refused(WaterTest::water, "bridge(61, -1, 0)", -4, x -> x.bridge(61, -1, 0));
        Check.refused(WaterTest::water, "bridge(0, 1000, -1)", -4, x -> x.bridge(0, 1000, -1));
        Check.refused(WaterTest::water, "bridge(61, 0, 0)", -6, x -> x.bridge(61, 0, 0));
        Check.refused(WaterTest::water, "bridge(0, 1000, 0)", -6, x -> x.bridge(0, 1000, 0));
        Check.refused(WaterTest::water, "bridge(0, 0, 13)", -6, x -> x.bridge(0, 0, 13));
    }

    private static void gateRefusals() {
        Check.refused(WaterTest::water, "passes(-1, 10, 12)", -4, x -> x.passes(-1, 10, 12));
        Check.refused(WaterTest::water, "passes(41, -1, 12)", -4, x -> x.passes(41, -1, 12));
        Check.refused(WaterTest::water, "passes(41, 0, 12)", -6, x -> x.passes(41, 0, 12));
        Check.refused(WaterTest::water, "passes(0, 10, 12)", -6, x -> x.passes(0, 10, 12));
        Check.refused(WaterTest::water, "passes(0, 0, 12)", -1, x -> x.passes(0, 0, 12));
        Check.refused(WaterTest::water, "passes(0, 0, -1)", -1, x -> x.passes(0, 0, -1));
        Check.refused(() -> waiting(12), "waited(-1, 0)", -4, x -> x.waited(-1, 0));
        Check.refused(() -> waiting(12), "waited(41, -1)", -4, x -> x.waited(41, -1));
        Check.refused(() -> waiting(12), "waited(41, 0)", -6, x -> x.waited(41, 0));
        Check.refused(() -> waiting(12), "waited(0, 10)", -6, x -> x.waited(0, 10));
        Check.refused(() -> waiting(0, 12, 1), "waited(40, 9)", -3, x -> x.waited(40, 9));
        Check.refused(() -> waiting(12, 1), "waited(0, 0)", -3, x -> x.waited(0, 0));
    }
}
