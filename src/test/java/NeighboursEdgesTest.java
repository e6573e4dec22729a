/** Boats beside one another at the edges: one foot together, all that go, all that stay, lines of 0 and 99 feet. */
public final class NeighboursEdgesTest {
    public static void main(String[] arguments) {
        oneFootTogether();
        touchAtEachHour();
        touchOfKinds();
        clearIsLeast();
        clearOfEach();
        alongsideAlone();
        alongsideFive();
        alongsideRows();
        crossedPairs();
        crossedByWind();
        skippersAtTheEnds();
        skippersTakeTheFirst();
        Check.finish();
    }

    /** From 20 less OUT to 20 and OUT and LONG; the other from 60 on, or to 60 and LONG. */
    private static void oneFootTogether() {
        for (int far = 0; far <= 40; far++) {
            HangsAtLowWater x = Check.told("r2022;r6022;b0000001099;b0110000599;");
            x.pay(0, far);
            boolean meets = 20 + far + 10 >= 60;
            Check.due("from below, " + far + " feet", x.touch(0, 1), meets ? 4095 : 0);
            Check.due("from above, " + far + " feet", x.touch(1, 0), meets ? 4095 : 0);
            x.pay(0, 0);
            x.pay(1, far);
            meets = 60 - far <= 30;
            Check.due("the other, from above, " + far + " feet", x.touch(0, 1), meets ? 4095 : 0);
            Check.due("the other, from below, " + far + " feet", x.touch(1, 0), meets ? 4095 : 0);
        }
        HangsAtLowWater one = Check.told("r2022;b0000000199;b0000002099;");
        Check.due("at one RING", one.touch(0, 1), 4095);
    }

    private static void touchAtEachHour() {
        for (int hour = 0; hour < 12; hour++) {
            HangsAtLowWater x = Check.told("r2022;r3022;b0000101099;b0110101099;");
            x.rises(hour, 11);
            Check.due("both hang but for 10 feet at " + hour, x.touch(0, 1), 4095);
            x.pay(0, 8);
            Check.due("the first one hangs at " + hour, x.touch(0, 1), 4095 - (1 << hour));
            Check.due("the other hangs at " + hour, x.touch(1, 0), 4095 - (1 << hour));
            x.pay(1, 0);
            Check.due("both hang at " + hour, x.touch(0, 1), 4095 - (1 << hour));
            x.pay(0, 0);
            x.rises(hour, 20);
            Check.due("no line, ten LONG", x.touch(0, 1), 4095);
            HangsAtLowWater y = Check.told("r2022;r6022;b0000401099;b0110200199;");
            for (int i = 0; i < 12; i++) {
                y.rises(i, 40);
            }
            // 20 feet of DROP leave 34 feet of 40 and none of 20; where there is none, all of both.
            Check.due("34 feet and 10", y.touch(0, 1), 4095);
            y.pay(0, 30);
            Check.due("22 feet and 10", y.touch(0, 1), 0);
            y.rises(hour, 20);
            Check.due("30 feet and 20 at " + hour, y.touch(0, 1), 1 << hour);
        }
    }

    private static void touchOfKinds() {
        // Two lines at 20 and 61 lie at 40: half of 20 less 20 squared is none.
        HangsAtLowWater x = Check.told("r2022;r6122;b1001200499;b0110170199;");
        Check.due("two lines to 44, a tie from 44", x.touch(0, 1), 4095);
        x.pay(1, 16);
        Check.due("two lines to 44, a tie from 45", x.touch(0, 1), 0);
        x.pay(0, 19);
        x.pay(1, 99);
        Check.due("two lines hang", x.touch(0, 1), 0);
        // WIND moves the MIDDLE, not where it LIES.
        HangsAtLowWater y = Check.told("r2022;r4022;b0000100999;b0110000199;", "w00+9;w01-9;");
        Check.due("39 and 40, whatever the WIND", y.touch(0, 1), 0);
    }

    private static void clearIsLeast() {
        for (int hour = 0; hour < 12; hour++) {
            HangsAtLowWater x = Check.told("r2022;r6022;b0000101099;b0110101099;");
            x.rises(hour, 1);
            Check.due("low at " + hour, x.clear(0, 1), 19);
            Check.due("low at " + hour + ", the other", x.clear(1, 0), 19);
            x.rises(hour, 20);
            Check.due("no line needed", x.clear(0, 1), 0);
        }
        HangsAtLowWater far = Check.told("r0060;r9900;b4901001099;b0110991099;");
        far.set(1, 0);
        far.rises(4, 0);
        Check.due("the greatest LEAST", far.clear(0, 1), 78);
        Check.due("its LENGTH stays", far.boat(0, 4), 0);
    }

    /** Asked on an object that was asked nothing ahead: of which BOAT, beside which. */
    private static void clearOfEach() {
        String quay = "r2022;r6027;r9033;b0000101099;b0110101099;b0220101099;";
        int[] least = {0, 5, 11};
        for (int one = 0; one < 3; one++) {
            for (int other = 0; other < 3; other++) {
                Check.due("clear(" + one + ", " + other + ")", Check.told(quay).clear(one, other),
                        one == other ? -1 : least[one]);
            }
        }
        // Each foot of line more is a foot nearer: all touch at once, or none does by the least.
        HangsAtLowWater x = Check.told("r2022;r3622;r6022;b0000101099;b0110060599;b0220101099;");
        Check.due("beside one 16 feet off", x.clear(0, 1), 0);
        Check.due("beside one 40 feet off", x.clear(0, 2), 0);
    }

    private static void alongside(HangsAtLowWater x, String row, int moves, int order) {
        x.drop();
        for (String v : row.split(" ")) {
            x.row(Integer.parseInt(v));
        }
        Check.due("alongside by " + row + ": MOVES", x.alongside(0), moves);
        Check.due("alongside by " + row + ": the fewest", x.alongside(1), 0);
        Check.due("alongside by " + row + ": BEST ORDER", x.alongside(2), order);
        Check.due("alongside by " + row + ": MOVES again", x.alongside(0), moves);
        Check.due("alongside by " + row + ": the ROW stays", x.count(8), row.split(" ").length);
    }

    private static void alongsideAlone() {
        HangsAtLowWater x = Check.told("r2022;b0000101099;");
        alongside(x, "0", 0, 0);
        alongside(x, "11", 0, 0);
        alongside(x, "12", 0, 0);
        HangsAtLowWater pair = Check.told("r2022;b0000101099;b0000101099;");
        alongside(pair, "0 0", 0, 10);
        alongside(pair, "0 1", 1, 1);
        alongside(pair, "1 0", 0, 10);
        alongside(pair, "11 12", 1, 1);
        alongside(pair, "12 11", 0, 10);
        alongside(pair, "12 12", 0, 10);
    }

    private static void alongsideFive() {
        HangsAtLowWater x = Check.told("r2022;" + "b0000101099;".repeat(5));
        alongside(x, "0 1 2 3 4", 10, 1234);
        alongside(x, "4 3 2 1 0", 0, 43210);
        alongside(x, "0 0 0 0 0", 0, 43210);
        alongside(x, "12 12 12 12 12", 0, 43210);
        alongside(x, "11 11 11 11 12", 4, 32104);
        alongside(x, "12 11 11 11 11", 0, 43210);
        alongside(x, "0 12 12 12 12", 4, 4321);
        alongside(x, "3 3 5 5 3", 4, 41032);
        alongside(x, "7 12 0 12 7", 2 + 2, 24031);
    }

    private static void alongsideRows() {
        HangsAtLowWater x = Check.told("r2022;b0000101099;b0000101099;");
        int[] due = {-3, -3, 0, -3, -3, -3, -3, -3, -3, -3, -3, -3, -3};
        for (int many = 0; many <= 12; many++) {
            Check.due("two BOATS, " + many + " in the ROW", x.alongside(1), due[many]);
            x.row(5);
        }
        x.drop();
        x.row(13);
        x.row(0);
        Check.due("13", x.alongside(0), -3);
        x.drop();
        x.row(0);
        x.row(99);
        Check.due("99 as the last", x.alongside(0), -3);
        Check.due("another what ahead of all", x.alongside(3), -2);
        HangsAtLowWater none = Check.told("r2022;");
        Check.due("no BOATS, none in the ROW", none.alongside(0), -3);
        none.row(0);
        Check.due("no BOATS, one in the ROW", none.alongside(0), -3);
    }

    private static void crossedPairs() {
        HangsAtLowWater all = Check.told("r4522;r9522;r6822;r6222;r6022;r0122;",
                "b1001000100;b1015000100;b1020000100;b1033000100;b1042000100;");
        // MIDDLES at 70, 48, 56, 62 and 64 of PLACES 45, 95, 68, 62 and 60, without line.
        int[] middles = {70, 48, 56, 62, 64};
        for (int boat = 0; boat < 5; boat++) {
            Check.due("MIDDLE of " + boat, all.lies(boat, 0, 2), middles[boat]);
        }
        for (int hour = 0; hour < 12; hour++) {
            Check.due("all pairs at " + hour, all.crossed(hour), 10);
        }
        Check.due("no BOATS", new HangsAtLowWater().crossed(11), 0);
        Check.due("one BOAT", Check.told("r4522;r9522;b1001000100;").crossed(11), 0);
        Check.due("five at one RING", Check.told("r4522;r9522;" + "b1001000100;".repeat(3) + "b0000000100;"
                + "b0000000100;").crossed(0), 0);
    }

    /** A pole at 20 goes with the WIND by 5 feet at most, a tie at another RING without line stays. */
    private static void crossedByWind() {
        for (int place = 16; place <= 24; place++) {
            HangsAtLowWater x = Check.told("r2022;r" + Check.two(place) + "22;b3500990199;b0110000199;");
            for (int wind = -9; wind <= 9; wind++) {
                int hour = Math.floorMod(wind, 12);
                Check.quay(x, "w" + Check.two(hour) + (wind < 0 ? "-" : "+") + Math.abs(wind) + ";");
                int middle = 20 + Math.max(-5, Math.min(5, wind));
                boolean isCrossed = place > 20 && middle > place || place < 20 && middle < place;
                Check.due("a tie at " + place + ", WIND " + wind, x.crossed(hour), isCrossed ? 1 : 0);
            }
        }
    }

    private static void skippers(HangsAtLowWater x, int one, int other, int first, int second) {
        x.pay(0, one);
        x.pay(1, other);
        String lines = one + " and " + other;
        Check.due(lines + ": the first one's", x.skippers(0, 1, 0), first);
        Check.due(lines + ": the other's", x.skippers(0, 1, 1), second);
        Check.due(lines + ", told the other way round: the other's", x.skippers(1, 0, 0), second);
        Check.due(lines + ", told the other way round: the first one's", x.skippers(1, 0, 1), first);
        Check.due(lines + " stay", x.count(5), one + other);
    }

    /** Far from one another each foot that a pole gives way is worth more, and what hangs is never worth it. */
    private static void skippersAtTheEnds() {
        HangsAtLowWater x = Check.told("r0022;r9922;b3900001099;b3910001099;");
        int[] lines = {0, 1, 2, 3, 6, 7};
        for (int one : lines) {
            for (int other : lines) {
                skippers(x, one, other, Math.min(9, one + 2), Math.min(9, other + 2));
            }
        }
        for (int one = 50; one <= 99; one += 7) {
            // Nine feet are the most: all LENGTHS within two are alike, and the least comes first.
            skippers(x, one, 99, one - 2, 97);
            skippers(x, one, 98, one - 2, 96);
        }
        HangsAtLowWater y = Check.told("r0060;r9922;b0000001099;b3910001099;");
        y.set(1, 0);
        for (int hour = 0; hour < 12; hour++) {
            y.rises(hour, 0);
        }
        skippers(y, 0, 0, 0, 2);
        skippers(y, 40, 50, 38, 48);
        skippers(y, 58, 50, 60, 48);
    }

    private static void skippersTakeTheFirst() {
        // They touch from 35 feet together on.
        HangsAtLowWater x = Check.told("r0522;r4322;b0000350399;b0110000399;");
        Check.due("34 feet together: the first one's", x.skippers(0, 1, 0), 33);
        Check.due("34 feet together: the other's", x.skippers(0, 1, 1), 1);
        Check.due("the other way round: the first pair has no foot of the first", x.skippers(1, 0, 0), 0);
        Check.due("the other way round: and 34 of the other", x.skippers(1, 0, 1), 34);
        HangsAtLowWater y = Check.told("r2022;r2022;b0000970399;b0000990399;");
        Check.due("at one RING: the first one's", y.skippers(0, 1, 0), 99);
        Check.due("at one RING: the other's", y.skippers(0, 1, 1), 99);
    }
}
