/** Rings for boats, marks, whose line it was and the ROW at their edges: all LENGTHS, all RINGS, full and empty. */
public final class RingsEdgesTest {
    /** Six RINGS at the height of the bow, where no line is needed. */
    private static final String SIX = "r1022;r2022;r3022;r4022;r5022;r6022;";
    /** Has OUT of 5 feet there and may come 4 feet far: nowhere WELL. */
    private static final String TOO_FAR = "b0000050104;";
    private static final String WELL = "b0000050105;";

    public static void main(String[] arguments) {
        berthsFullAndEmpty();
        berthsByOneRing();
        berthsAtEachHour();
        berthsWithFewerBoatsThanOnce();
        cheapestFullAndEmpty();
        cheapestByTheFirst();
        marksOfAllLengths();
        marksAtEachHour();
        whose();
        hung();
        rowFullAndEmpty();
        judgedRound();
        judgedAtEachPlace();
        judgedWhichever();
        Check.finish();
    }

    private static void berths(HangsAtLowWater x, String which, int many, int rings) {
        Check.due(which + ": how many", x.berths(0), many);
        Check.due(which + ": RINGS", x.berths(1), rings);
    }

    private static void cheapest(HangsAtLowWater x, String which, int lengths, int rings) {
        Check.due(which + ": LENGTHS", x.cheapest(0), lengths);
        Check.due(which + ": RINGS", x.cheapest(1), rings);
    }

    private static void berthsFullAndEmpty() {
        Check.due("no BOATS, but RINGS", Check.told(SIX).berths(0), -3);
        berths(Check.told("r1022;" + WELL), "one at one", 1, 0);
        berths(Check.told("r1022;" + TOO_FAR), "one at one, too far", 0, 0);
        berths(Check.told(SIX + WELL.repeat(5)), "five at six", 5, 43210);
        berths(Check.told(SIX + TOO_FAR.repeat(5)), "five at six, none WELL", 0, 43210);
        berths(Check.told(SIX.substring(0, 30) + WELL.repeat(5)), "five at five", 5, 43210);
        berths(Check.told("r1022;" + WELL.repeat(5)), "five at one", 1, 99990);
        berths(Check.told("r1022;" + TOO_FAR.repeat(5)), "five at one, none WELL", 0, 99990);
        berths(Check.told("r1022;" + TOO_FAR.repeat(4) + WELL), "five at one, the last alone WELL", 1, 9999);
        berths(Check.told("r1022;r2022;" + TOO_FAR + WELL + TOO_FAR + WELL), "four at two", 2, 1909);
        berths(Check.told("r1022;r2022;" + TOO_FAR + WELL + TOO_FAR), "three at two: one has none", 1, 910);
    }

    /** The sixth RING alone is low enough for a line of 5 feet; BOATS ahead lie at the first RINGS all the same. */
    private static void berthsByOneRing() {
        String high = "r1060;r2060;r3060;r4060;r5060;r6022;";
        berths(Check.told(high + WELL), "WELL at the sixth", 1, 5);
        berths(Check.told(high + WELL + WELL), "one of two at the sixth", 1, 50);
        berths(Check.told(high + TOO_FAR + WELL), "the second at the sixth", 1, 50);
        berths(Check.told(high + WELL.repeat(5)), "one of five at the sixth", 1, 53210);
        berths(Check.told(high + WELL + TOO_FAR), "the first at the sixth", 1, 5);
        berths(Check.told(high + WELL + TOO_FAR.repeat(4)), "the first of five at the sixth", 1, 32105);
        HangsAtLowWater x = Check.told(high + WELL);
        x.tie(0, 5);
        berths(x, "where it is", 1, 5);
        x.tie(0, 2);
        berths(x, "wherever it is", 1, 5);
        Check.due("its RING stays", x.boat(0, 2), 2);
    }

    private static void berthsAtEachHour() {
        for (int hour = 0; hour < 12; hour++) {
            HangsAtLowWater x = Check.told("r1022;r2030;" + WELL);
            x.rises(hour, 14);
            berths(x, "hangs at " + hour + " alone", 0, 0);
            x.rises(hour, 15);
            berths(x, "does not hang at " + hour, 1, 0);
            x.set(0, 22);
            berths(x, "just below the EDGE", 1, 0);
            x.rises(hour, 21);
            berths(x, "under the EDGE at " + hour, 0, 0);
            x.set(0, 23);
            berths(x, "a higher EDGE", 1, 0);
            HangsAtLowWater far = Check.told("r1024;" + "b0000050104;");
            for (int i = 0; i < 12; i++) {
                far.rises(i, 18);
            }
            berths(far, "not too far", 1, 0);
            far.rises(hour, 20);
            berths(far, "4 feet at " + hour, 1, 0);
            far.rises(hour, 22);
            berths(far, "5 feet at " + hour, 0, 0);
        }
    }

    /** What was found for more BOATS does not count for fewer. */
    private static void berthsWithFewerBoatsThanOnce() {
        HangsAtLowWater x = Check.told("r1030;r2031;b0000991099;b0000991099;");
        x.image();
        Check.due("three BOATS more", Check.quay(x, "r3035;r4036;r5037;" + "b0000991099;".repeat(3)), 6);
        cheapest(x, "five BOATS", 8 + 9 + 13 + 14 + 15, 43210);
        berths(x, "five BOATS", 5, 43210);
        x.restore();
        cheapest(x, "two again", 17, 10);
        berths(x, "two again", 2, 10);
    }

    private static void cheapestFullAndEmpty() {
        Check.due("no BOATS, but RINGS", Check.told(SIX).cheapest(0), -3);
        cheapest(Check.told("r1022;" + WELL), "one at one", 0, 0);
        cheapest(Check.told(SIX + WELL.repeat(5)), "five at six", 0, 43210);
        cheapest(Check.told(SIX.substring(0, 30) + WELL.repeat(5)), "five at five", 0, 43210);
        cheapest(Check.told(SIX.substring(0, 24) + WELL.repeat(5)), "five at four", -9, -9);
        cheapest(Check.told("r1022;" + WELL + WELL), "two at one", -9, -9);
        HangsAtLowWater dear = Check.told("r0060;r0060;r0060;r0060;r0060;r9900;");
        Check.due("five rows", Check.quay(dear, "b4905000100;".repeat(5)), 5);
        dear.set(1, 0);
        dear.rises(6, 0);
        cheapest(dear, "the dearest", 4 * 78 + 22, 53210);
    }

    /** Of ways that cost as much the first: by BOAT 0's RING, then by BOAT 1's, .. */
    private static void cheapestByTheFirst() {
        cheapest(Check.told("r1030;r1030;r1030;" + WELL + WELL), "all alike", 16, 10);
        cheapest(Check.told("r1031;r1030;r1030;" + WELL + WELL), "the first dearer", 16, 21);
        cheapest(Check.told("r1030;r1031;r1030;" + WELL + WELL), "the second dearer", 16, 20);
        // A tie and a pole: the pole NEEDS nothing anywhere, so the tie has the lowest RING.
        cheapest(Check.told("r1030;r1023;b3000050105;" + WELL), "the pole leaves the lower RING", 1, 10);
        cheapest(Check.told("r1023;r1030;b3000050105;" + WELL), "the pole goes to the higher RING", 1, 1);
        String high = "r1060;r2060;r3060;r4060;r5060;r6022;";
        cheapest(Check.told(high + WELL + "b3000050105;"), "the first at the sixth", 0, 5);
        cheapest(Check.told(high + WELL + WELL), "either at the sixth: the second", 38, 50);
        HangsAtLowWater x = Check.told("r1030;r1023;" + WELL);
        x.set(0, 0);
        cheapest(x, "an EDGE does not count", 1, 1);
    }

    private static void marks(HangsAtLowWater x, int hours, int many, int least) {
        Check.due("marks of " + hours + ": how many", x.marks(0, hours, 0), many);
        Check.due("marks of " + hours + ": the least", x.marks(0, hours, 1), least);
    }

    private static void marksOfAllLengths() {
        HangsAtLowWater x = Check.told("r1022;" + WELL);
        marks(x, 0, 100, 0);
        marks(x, 4095, 0, -9);
        marks(x, 1, 0, -9);
        HangsAtLowWater y = Check.told("r1060;r7522;" + "b4901050105;");
        y.set(1, 0);
        for (int hour = 0; hour < 12; hour++) {
            y.rises(hour, 0);
        }
        // 60, half of 65 and 9 feet: 3600, 32 squared and 81.
        marks(y, 4095, 69, 0);
        marks(y, 0, 31, 69);
        y.rises(5, 1);
        // A foot more at HOUR 5: there 68 feet are enough.
        marks(y, 4095 - 32, 1, 68);
        marks(y, 4095, 68, 0);
        marks(y, 4094, 0, -9);
    }

    private static void marksAtEachHour() {
        for (int hour = 0; hour < 12; hour++) {
            HangsAtLowWater x = Check.told("r1022;" + WELL);
            x.rises(hour, 0);
            marks(x, 1 << hour, 20, 0);
            marks(x, 0, 80, 20);
            marks(x, 4095 - (1 << hour), 0, -9);
            Check.due("hung at " + hour + ": how many", x.hung(0, 1 << hour, 0), 20);
            Check.due("hung at " + hour + ": the least", x.hung(0, 1 << hour, 1), 0);
            Check.due("whose at " + hour, x.whose(1 << hour), 1);
            Check.due("hangs at " + hour, x.hours(0, 0), 1 << hour);
            x.pay(0, 20);
            Check.due("whose at none", x.whose(0), 1);
            Check.due("whose at " + hour + " then", x.whose(1 << hour), 0);
        }
    }

    private static void whose() {
        HangsAtLowWater x = Check.told("r1042;" + "b0000200105;".repeat(5));
        Check.due("whose: all five", x.whose(0), 31);
        Check.due("whose at all HOURS: none", x.whose(4095), 0);
        x.pay(4, 19);
        Check.due("whose at all HOURS: the last", x.whose(4095), 16);
        Check.due("whose: the others", x.whose(0), 15);
        x.pay(0, 0);
        Check.due("whose at all HOURS: two", x.whose(4095), 17);
        HangsAtLowWater none = new HangsAtLowWater();
        Check.due("whose of no BOATS", none.whose(0), 0);
        Check.due("whose of no BOATS at all HOURS", none.whose(4095), 0);
    }

    private static void hung(HangsAtLowWater x, int hours, int many, int least) {
        Check.due("hung of " + hours + ": how many", x.hung(0, hours, 0), many);
        Check.due("hung of " + hours + ": the least", x.hung(0, hours, 1), least);
    }

    private static void hung() {
        HangsAtLowWater x = Check.told(SIX + WELL);
        hung(x, 0, 600, 0);
        hung(x, 4095, 0, -9);
        HangsAtLowWater y = Check.told("r1022;r2022;r3022;r4022;r5022;r6060;" + WELL);
        hung(y, 4095, 38, 500);
        hung(y, 0, 562, 0);
        y.tie(0, 5);
        y.pay(0, 99);
        hung(y, 4095, 38, 500);
        hung(y, 0, 562, 0);
        HangsAtLowWater high = Check.told("r1060;r2059;" + WELL);
        hung(high, 0, 62 + 63, 38);
        hung(high, 4095, 38 + 37, 0);
        // The second RING stays: from RING 0 half of 80 is NEEDED, from RING 1 nothing.
        HangsAtLowWater two = Check.told("r1022;r9022;b1001050105;");
        hung(two, 0, 60 + 100, 40);
        hung(two, 4095, 40, 0);
    }

    private static void rowFullAndEmpty() {
        HangsAtLowWater x = new HangsAtLowWater();
        Check.due("an empty ROW dropped", x.drop(), 0);
        for (int round = 0; round < 2; round++) {
            for (int i = 1; i <= 12; i++) {
                Check.due("number " + i, x.row(i % 2 == 0 ? 99 : 0), i);
                Check.due("in the ROW", x.count(8), i);
            }
            Check.due("a thirteenth", x.row(50), -6);
            Check.due("a thirteenth above 99", x.row(100), -6);
            Check.due("a thirteenth below 0", x.row(-1), -4);
            Check.due("twelve dropped", x.drop(), 12);
            Check.due("none dropped", x.drop(), 0);
        }
    }

    /** 10 feet of line, and a foot of DROP more each HOUR. */
    private static HangsAtLowWater steps() {
        HangsAtLowWater x = Check.told("r1032;" + "b0000100199;");
        for (int hour = 0; hour < 12; hour++) {
            x.rises(hour, 30 - hour % 11);
        }
        return x;
    }

    private static int[] outs(HangsAtLowWater x) {
        int[] outs = new int[12];
        for (int hour = 0; hour < 12; hour++) {
            int drop = hour % 11;
            outs[hour] = (int) Math.floor(Math.sqrt(100 - drop * drop));
            Check.due("OUT at " + hour, x.out(0, hour), outs[hour]);
        }
        return outs;
    }

    private static void judgedRound() {
        HangsAtLowWater x = steps();
        int[] outs = outs(x);
        for (int from = 0; from < 12; from++) {
            for (int i = 0; i < 12; i++) {
                x.row(outs[(from + i) % 12]);
            }
            Check.due("all twelve from " + from, x.judge(0), -9);
            Check.due("the ROW has none then", x.count(8), 0);
            x.hour();
        }
    }

    private static void judgedAtEachPlace() {
        HangsAtLowWater x = steps();
        int[] outs = outs(x);
        for (int i = 0; i < 7; i++) {
            x.hour();
        }
        for (int many = 1; many <= 12; many++) {
            for (int i = 0; i < many; i++) {
                x.row(outs[(7 + i) % 12] + (i == many - 1 ? 1 : 0));
            }
            Check.due("the last of " + many + " is not so", x.judge(0), many - 1);
        }
        for (int i = 0; i < 12; i++) {
            x.row(99);
        }
        Check.due("none of them is so", x.judge(0), 0);
    }

    private static void judgedWhichever() {
        HangsAtLowWater x = Check.told("r1022;b0000990199;");
        Check.due("an empty ROW", x.judge(0), -9);
        x.row(99);
        Check.due("99 feet", x.judge(0), -9);
        Check.due("none behind what is so", x.drop(), 0);
        x.row(98);
        Check.due("not 99 feet", x.judge(0), 0);
        Check.due("none behind what is not so", x.drop(), 0);
        x.row(99);
        Check.due("no such BOAT", x.judge(1), -1);
        Check.due("one behind what is refused", x.count(8), 1);
        Check.due("and it is so", x.judge(0), -9);
        x.rises(0, 0);
        x.pay(0, 19);
        x.row(0);
        x.row(19);
        Check.due("no foot where it hangs", x.judge(0), -9);
    }
}
