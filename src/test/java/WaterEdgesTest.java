/** Mud, gates, ramps, seeds and springs at their edges: round the day, at every HOUR and DAY, just so high. */
public final class WaterEdgesTest {
    public static void main(String[] arguments) {
        mudAtEachHour();
        mudAtTheEnds();
        carryAtEachHour();
        carryAtTheEnds();
        passesAtEachHour();
        passesAtTheEnds();
        waited();
        slopes();
        openJustSo();
        rampsAsTheyCome();
        bridges();
        swells();
        fortnights();
        seeds();
        Check.finish();
    }

    private static HangsAtLowWater flat(int tide) {
        HangsAtLowWater x = new HangsAtLowWater();
        for (int hour = 0; hour < 12; hour++) {
            x.rises(hour, tide);
        }
        return x;
    }

    /** Floats at one HOUR alone: from each HOUR on that one is found, round. */
    private static void mudAtEachHour() {
        for (int high = 0; high < 12; high++) {
            HangsAtLowWater x = flat(10);
            x.rises(high, 11);
            for (int a = 0; a < 12; a++) {
                Check.due("high at " + high + ": mud from " + a, x.mud(10, a), high);
                Check.due("high at " + high + ": at no TIDE from " + a, x.mud(11, a), -9);
                Check.due("high at " + high + ": at each TIDE from " + a, x.mud(9, a), a);
            }
        }
    }

    private static void mudAtTheEnds() {
        HangsAtLowWater x = flat(0);
        Check.due("no TIDE is above 0", x.mud(0, 0), -9);
        x.rises(11, 1);
        Check.due("a foot is", x.mud(0, 0), 11);
        x.rises(3, 40);
        Check.due("40 is above 39", x.mud(39, 4), 3);
        Check.due("40 is not above 40", x.mud(40, 4), -9);
    }

    private static void carryAtEachHour() {
        for (int b = 0; b < 12; b++) {
            HangsAtLowWater x = flat(10);
            x.rises(b, 12);
            for (int a = 0; a < 12; a++) {
                if (a == b) {
                    Check.due("carry to where it is", x.carry(0, a, b), -1);
                    continue;
                }
                Check.due("carry to the tides' height from " + a + " to " + b, x.carry(0, a, b), 10);
                Check.due("carry one above from " + a + " to " + b, x.carry(11, a, b), 11);
                Check.due("carry as high as at " + b, x.carry(12, a, b), -9);
                Check.due("no higher at " + a + " than at " + b, x.carry(0, b, a), -9);
            }
        }
    }

    private static void carryAtTheEnds() {
        HangsAtLowWater x = flat(0);
        x.rises(5, 1);
        Check.due("at 0 by a foot", x.carry(0, 6, 5), 0);
        Check.due("eleven HOURS round", x.carry(0, 6, 5), 0);
        Check.due("at 1 not", x.carry(1, 6, 5), -9);
        x.rises(4, 39);
        x.rises(5, 40);
        Check.due("39 at the HOUR ahead", x.carry(0, 3, 5), 39);
        Check.due("told to be 39", x.carry(39, 3, 5), 39);
        Check.due("told to be 40", x.carry(40, 3, 5), -9);
        Check.due("not from behind it", x.carry(0, 5, 4), -9);
        Check.due("what is behind b does not count", x.carry(0, 3, 4), 0);
        x.rises(4, 40);
        Check.due("as high ahead as then", x.carry(0, 3, 5), -9);
        Check.due("ahead of what is high", x.carry(0, 6, 4), 0);
    }

    private static void passesAtEachHour() {
        for (int high = 0; high < 12; high++) {
            HangsAtLowWater x = flat(14);
            x.rises(high, 15);
            for (int a = 0; a < 12; a++) {
                Check.due("high at " + high + ": passes from " + a, x.passes(10, 5, a), high);
                Check.due("high at " + high + ": never from " + a, x.passes(10, 6, a), -9);
                Check.due("high at " + high + ": at once from " + a, x.passes(10, 4, a), a);
                x.drop();
                x.row(a);
                Check.due("high at " + high + ": waits from " + a, x.waited(10, 5), (high - a + 12) % 12);
                Check.due("high at " + high + ": waits from " + a + " for ever", x.waited(11, 5), -9);
            }
        }
    }

    private static void passesAtTheEnds() {
        HangsAtLowWater x = flat(0);
        Check.due("no sill, no draught, no water", x.passes(0, 0, 7), 7);
        Check.due("a foot of sill", x.passes(1, 0, 7), -9);
        Check.due("a foot of draught", x.passes(0, 1, 7), -9);
        x.rises(6, 40);
        Check.due("40 over 40", x.passes(40, 0, 7), 6);
        Check.due("41 over 40", x.passes(40, 1, 7), -9);
        Check.due("40 by a draught of 9", x.passes(31, 9, 7), 6);
        Check.due("41 by a draught of 9", x.passes(32, 9, 7), -9);
        Check.due("49 at the most", x.passes(40, 9, 7), -9);
    }

    private static void waited() {
        HangsAtLowWater x = flat(0);
        x.rises(11, 40);
        Check.due("an empty ROW waits for nothing", x.waited(40, 9), 0);
        for (int i = 1; i <= 12; i++) {
            x.row(0);
            Check.due(i + " wait from 0 to 11", x.waited(40, 0), 11 * i);
        }
        Check.due("the ROW stays", x.count(8), 12);
        x.drop();
        for (int hour = 0; hour < 12; hour++) {
            x.row(hour);
        }
        Check.due("one from each HOUR", x.waited(40, 0), 66);
        Check.due("none has to wait", x.waited(0, 0), 0);
        x.rises(11, 0);
        x.rises(0, 40);
        Check.due("round to HOUR 0", x.waited(40, 0), 66);
        x.drop();
        x.row(11);
        Check.due("from 11 to 0", x.waited(40, 0), 1);
        x.row(12);
        Check.due("12 is no HOUR", x.waited(40, 0), -3);
        Check.due("and stays in the ROW", x.count(8), 2);
    }

    private static void slopes() {
        int[] heights = {0, 1, 20, 39, 60};
        int[] longs = {1, 2, 3, 7, 39, 40};
        for (int height : heights) {
            for (int wide : longs) {
                HangsAtLowWater x = new HangsAtLowWater();
                Check.due("a RAMP of " + height + " and " + wide, x.ramp(height, wide), 0);
                for (int tide = 0; tide <= 40; tide++) {
                    x.rises(tide % 12, tide);
                    int feet = tide > height ? tide - height : height - tide;
                    Check.due("SLOPE of " + height + " and " + wide + " at " + tide, x.slope(0, tide % 12),
                            (int) (100L * feet / wide));
                }
            }
        }
    }

    private static void openJustSo() {
        for (int hour = 0; hour < 12; hour++) {
            HangsAtLowWater x = flat(30);
            x.ramp(30, 4);
            x.rises(hour, 27);
            Check.due("a slope of 75 at " + hour + ", as told", x.open(0, 75), 4095);
            Check.due("a slope of 75 at " + hour + ", one less told", x.open(0, 74), 4095 - (1 << hour));
            Check.due("a slope of 0 told", x.open(0, 0), 4095 - (1 << hour));
        }
        HangsAtLowWater x = flat(20);
        x.ramp(30, 1);
        Check.due("a slope of 1000, 999 told", x.open(0, 999), 0);
        x.rises(0, 21);
        x.ramp(29, 1);
        Check.due("a slope of 900, 999 told", x.open(0, 999), 1);
        Check.due("the other RAMP", x.open(1, 899), 1);
        Check.due("the other RAMP, 900 told", x.open(1, 900), 4095);
    }

    private static void rampsAsTheyCome() {
        HangsAtLowWater x = new HangsAtLowWater();
        Check.due("no RAMP", x.slope(0, 0), -1);
        for (int i = 0; i < 3; i++) {
            Check.due("RAMP number " + i, x.ramp(20 + i, 1), i);
            Check.due("RAMPS then", x.count(10), i + 1);
            Check.due("no RAMP " + (i + 1), x.slope(i + 1, 0), -1);
            for (int j = 0; j <= i; j++) {
                Check.due("SLOPE of RAMP " + j, x.slope(j, 0), 100 * j);
            }
        }
        Check.due("a fourth", x.ramp(0, 1), -6);
        Check.due("a fourth, below as well", x.ramp(-1, 1), -4);
        Check.due("a fourth, not LONG", x.ramp(0, 0), -4);
        Check.due("RAMPS still", x.count(10), 3);
    }

    private static void bridges() {
        HangsAtLowWater x = flat(20);
        Check.due("40 LONG are just enough", x.bridge(60, 100, 12), 40);
        Check.due("40 LONG are not", x.bridge(60, 99, 12), -9);
        Check.due("as high as the TIDE", x.bridge(20, 0, 12), 1);
        Check.due("a foot higher", x.bridge(21, 0, 12), -9);
        Check.due("a foot higher, 2 told", x.bridge(21, 2, 12), 34);
        Check.due("a foot higher, 100 told", x.bridge(21, 100, 12), 1);
        Check.due("a foot higher, 99 told", x.bridge(21, 99, 12), 2);
        Check.due("none has to be OPEN", x.bridge(60, 0, 0), 1);
        Check.due("nor at any slope", x.bridge(0, 999, 0), 1);
        for (int hour = 0; hour < 12; hour++) {
            x.rises(hour, 40);
            for (int n = 0; n <= 12; n++) {
                Check.due("OPEN at " + n + " of " + (hour + 1), x.bridge(60, 100, n),
                        n == 0 ? 1 : n <= hour + 1 ? 20 : 40);
                Check.due("OPEN at " + n + " of " + (hour + 1) + ", 99 told", x.bridge(60, 99, n),
                        n == 0 ? 1 : n <= hour + 1 ? 21 : -9);
            }
        }
        Check.due("RAMPS stay", x.count(10), 0);
    }

    private static void swells() {
        int[] tides = {0, 1, 8, 19, 20, 21, 32, 39, 40};
        for (int spring = 0; spring <= 9; spring++) {
            HangsAtLowWater x = new HangsAtLowWater();
            Check.due("SPRING was", x.spring(spring), 0);
            Check.due("SPRING is", x.count(9), spring);
            for (int hour = 0; hour < tides.length; hour++) {
                x.rises(hour, tides[hour]);
            }
            for (int day = 0; day < 14; day++) {
                int by = (int) Math.floor(spring * (day < 7 ? 7 - day : day - 7) / 7.0);
                for (int hour = 0; hour < tides.length; hour++) {
                    int tide = tides[hour];
                    int due = tide > 20 ? Math.min(40, tide + by) : tide < 20 ? Math.max(0, tide - by) : 20;
                    Check.due("SPRING " + spring + ", DAY " + day + ", TIDE " + tide, x.swells(hour, day), due);
                }
            }
        }
    }

    private static void fortnight(HangsAtLowWater x, String which, int days, int first, int least) {
        Check.due(which + ": DAYS", x.fortnight(0, 0), days);
        Check.due(which + ": the first", x.fortnight(0, 1), first);
        Check.due(which + ": the least LENGTH", x.fortnight(0, 2), least);
    }

    /** A SPRING of 9 is 9 feet on DAY 0, 7 on 1 and 13, 6 on 2 and 12, .. 1 on 6 and 8, none on 7. */
    private static void fortnights() {
        for (int hour = 0; hour < 12; hour++) {
            HangsAtLowWater x = Check.told("r2022;b0000091033;");
            fortnight(x, "all at 20", 0, -9, 0);
            x.rises(hour, 11);
            fortnight(x, "no SPRING, low at " + hour, 0, -9, 9);
            x.spring(9);
            x.pay(0, 18);
            fortnight(x, "the lowest at " + hour + " just held", 0, -9, 18);
            x.pay(0, 17);
            fortnight(x, "the lowest at " + hour + " alone", 1, 0, 18);
            x.pay(0, 15);
            fortnight(x, "low at " + hour, 1 + 2 + 8192, 0, 18);
            x.pay(0, 9);
            fortnight(x, "all but the neaps at " + hour, 16383 - 128, 0, 18);
            x.pay(0, 8);
            fortnight(x, "all DAYS at " + hour, 16383, 0, 18);
        }
        // High water helps where the RING is high: only with least water on DAY 7 it hangs.
        HangsAtLowWater y = Check.told("r2050;b0000251033;");
        for (int hour = 0; hour < 12; hour++) {
            y.rises(hour, 22);
        }
        y.spring(9);
        fortnight(y, "the neaps alone", 128, 7, 26);
        y.pay(0, 26);
        fortnight(y, "not even then", 0, -9, 26);
        HangsAtLowWater legs = Check.told("r2040;b5400000133;");
        for (int hour = 0; hour < 12; hour++) {
            legs.rises(hour, 4);
        }
        fortnight(legs, "aground all day", 0, -9, 0);
        legs.rises(11, 5);
        fortnight(legs, "afloat by a foot", 16383, 0, 33);
        legs.spring(1);
        fortnight(legs, "aground on DAY 0 by a foot", 16382, 1, 33);
    }

    /** The TIDES of a seed once more, by long numbers; a tie that hangs from some TIDE on, or below one. */
    private static int[] drawn(int n, int z, int height, int length) {
        long seed = z & 0xffffffffL;
        int[] due = new int[2];
        for (int i = 0; i < n; i++) {
            int ahead = due[0];
            for (int hour = 0; hour < 12; hour++) {
                seed = (seed * 1103515245L + 12345L) % 4294967296L;
                long tide = seed % 2147483648L / 65536L % 41L;
                due[0] += length < Math.abs(height - 2 - tide) ? 1 : 0;
            }
            due[1] += due[0] == ahead ? 1 : 0;
        }
        return due;
    }

    private static void seeds() {
        int[] starts = {0, 1, -1, 7, 65535, 65536, 1 << 30, Integer.MAX_VALUE, Integer.MIN_VALUE, -12345};
        int[][] lines = {{2, 39}, {2, 38}, {2, 0}, {40, 37}, {40, 36}, {42, 39}, {42, 38}, {22, 19}, {22, 20}, {60, 57}};
        for (int[] line : lines) {
            HangsAtLowWater x = Check.told("r20" + Check.two(line[0]) + ";b0000401033;");
            x.pay(0, line[1]);
            for (int z : starts) {
                for (int n = 1; n <= 20; n += n == 1 ? 1 : 18) {
                    String call = "RING " + line[0] + ", LENGTH " + line[1] + ": seeds of " + n + " by " + z;
                    int[] due = drawn(n, z, line[0], line[1]);
                    Check.due(call + ": HOURS", x.seeds(0, n, z, 0), due[0]);
                    Check.due(call + ": tides", x.seeds(0, n, z, 1), due[1]);
                }
            }
            Check.due("the TIDES stay", x.tide(0) + x.tide(11), 40);
        }
        HangsAtLowWater x = Check.told("r2060;b0000001033;b5900001033;");
        Check.due("hangs at all HOURS of all tides", x.seeds(0, 20, 99, 0), 240);
        Check.due("there is no tide without", x.seeds(0, 20, 99, 1), 0);
        x.pay(0, 58);
        Check.due("hangs at none", x.seeds(0, 1, 99, 0), 0);
        Check.due("one tide without", x.seeds(0, 1, 99, 1), 1);
        Check.due("twenty tides without", x.seeds(0, 20, 99, 1), 20);
    }
}
