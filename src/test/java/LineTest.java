/** Promises 13 to 18, 21 and 26: one boat at its line. */
public final class LineTest {
    public static void main(String[] arguments) {
        needsAndOut();
        lies();
        hours();
        lengths();
        tended();
        slackAndSaves();
        refusals();
        Check.finish();
    }

    /** TIE, TWO, WEIGHT, POLE and ROW of 40 feet at a ring 18 feet above them, but at hours 1 to 3. */
    private static HangsAtLowWater kinds() {
        return Check.told("r2040;r6138;r9060;" + "b0000401033;b1001401020;b2001401026;b3501401004;b4902401099;",
                "t0140;t0203;t0338;w01+7;w04-9;");
    }

    private static HangsAtLowWater legs() {
        return Check.told("r2040;r6038;b5301401015;", "t0140;t0203;t0304;");
    }

    private static void needsAndOut() {
        HangsAtLowWater x = kinds();
        int[][] needs = {
            {324, 4, 1225, 0}, {724, 404, 1625, 400}, {324, 4, 1225, 0}, {0, 4, 0, 0}, {1630, 1310, 2531, 1306}};
        int[][] out = {{35, 39, 19, 40}, {14, 17, 0, 17}, {26, 29, 14, 30}, {5, 5, 5, 5}, {0, 8, 0, 8}};
        for (int boat = 0; boat < 5; boat++) {
            for (int hour = 0; hour < 4; hour++) {
                Check.due("needs(" + boat + ", " + hour + ")", x.needs(boat, hour), needs[boat][hour]);
                Check.due("out(" + boat + ", " + hour + ")", x.out(boat, hour), out[boat][hour]);
            }
        }
        HangsAtLowWater y = legs();
        int[] legsNeed = {324, 4, 0, 1156};
        int[] legsOut = {26, 29, 0, 15};
        for (int hour = 0; hour < 4; hour++) {
            Check.due("legs: needs(0, " + hour + ")", y.needs(0, hour), legsNeed[hour]);
            Check.due("legs: out(0, " + hour + ")", y.out(0, hour), legsOut[hour]);
        }
        // One foot is no hanging, a foot less is; a pole with a short line comes as far as that.
        HangsAtLowWater z = Check.told("r2040;b0000181033;b3900071009;");
        Check.due("just so long: out", z.out(0, 0), 0);
        Check.due("just so long: hours", z.hours(0, 0), 0);
        Check.due("pole: out", z.out(1, 0), 7);
        z.pay(0, 17);
        Check.due("a foot less: hours", z.hours(0, 0), 4095);
        z.set(1, 9);
        Check.due("a higher bow: needs", z.needs(0, 0), 121);
        Check.due("a higher bow: out", z.out(0, 0), 12);
    }

    private static void lies() {
        HangsAtLowWater x = kinds();
        int[][] atHour0 = {{-15, 65, 20}, {26, 64, 40}, {-6, 56, 20}, {15, 35, 20}, {55, 65, 55}};
        for (int boat = 0; boat < 5; boat++) {
            for (int what = 0; what < 3; what++) {
                Check.due("lies(" + boat + ", 0, " + what + ")", x.lies(boat, 0, what), atHour0[boat][what]);
            }
        }
        Check.due("wind less than out", x.lies(0, 1, 2), 27);
        Check.due("wind more than out", x.lies(3, 1, 2), 25);
        Check.due("wind the other way", x.lies(0, 4, 2), 11);
        Check.due("wind the other way, more than out", x.lies(3, 4, 2), 15);
        Check.due("wind on one that hangs", x.lies(4, 4, 2), 55);
        Check.due("wind does not move where it lies", x.lies(0, 4, 0), -15);
    }

    private static void hours() {
        HangsAtLowWater x = kinds();
        int[] hanging = {0, 4, 0, 0, 4095 - 10};
        int[] tooFar = {4095 - 4, 0, 2 + 8, 4095, 0};
        for (int boat = 0; boat < 5; boat++) {
            Check.due("hours(" + boat + ", 0)", x.hours(boat, 0), hanging[boat]);
            Check.due("hours(" + boat + ", 1)", x.hours(boat, 1), tooFar[boat]);
            Check.due("hours(" + boat + ", 2)", x.hours(boat, 2), 0);
            Check.due("hours(" + boat + ", 3)", x.hours(boat, 3), 4095 & ~(hanging[boat] | tooFar[boat]));
        }
        x.set(0, 40);
        Check.due("under an edge of 40", x.hours(1, 2), 2);
        Check.due("well under an edge of 40", x.hours(1, 3), 4095 - 4 - 2);
        x.set(0, 22);
        Check.due("under an edge of 22", x.hours(1, 2), 2 + 8);
        x.set(0, 21);
        Check.due("under an edge of 21", x.hours(1, 2), 4095 - 4);
        Check.due("well under an edge of 21", x.hours(1, 3), 0);
    }

    private static void lengths() {
        HangsAtLowWater x = Check.told("r2040;r6038;r9060;b0000401033;b1001401020;b3501401004;b3501401005;");
        int[][] want = {{18, 38, 21}, {27, 49, 23}, {0, 4, 5}, {0, 99, 100}};
        for (int boat = 0; boat < 4; boat++) {
            for (int what = 0; what < 3; what++) {
                Check.due("length(" + boat + ", " + what + ")", x.length(boat, what), want[boat][what]);
            }
        }
        x.set(0, 21);
        Check.due("under an edge: least", x.length(0, 0), 18);
        Check.due("under an edge: greatest", x.length(0, 1), 38);
        Check.due("under an edge: both", x.length(0, 2), 0);
        x.set(0, 60);
        x.rises(0, 5);
        Check.due("low at hour 0: least", x.length(0, 0), 33);
        x.rises(0, 38);
        Check.due("high at hour 0: greatest", x.length(0, 1), 33);
        x.rises(0, 20);
        x.rises(5, 38);
        x.rises(6, 0);
        Check.due("high and low: least", x.length(0, 0), 38);
        Check.due("high and low: greatest", x.length(0, 1), 33);
        Check.due("high and low: both", x.length(0, 2), 0);
    }

    private static void tended() {
        // Good are 33 .. 39 at hour 0, 0 .. 20 at 1, 26 .. 33 at 6, else 18 .. 27.
        HangsAtLowWater x = Check.told("r2040;r6038;b0000401020;b1001401000;", "t0005;t0138;t0612;");
        Check.due("tended(0, 0)", x.tended(0, 0), 2);
        Check.due("tended(0, 1)", x.tended(0, 1), 2 + 64);
        Check.due("tended(1, 0)", x.tended(1, 0), -9);
        Check.due("tended(1, 1)", x.tended(1, 1), -9);
        for (int hour = 0; hour < 12; hour++) {
            x.rises(hour, hour == 0 ? 20 : 38);
        }
        Check.due("no length is good at hour 0 alone", x.tended(1, 1), -9);
        x.rises(0, 38);
        Check.due("a length is good at all hours", x.tended(1, 1), 0);
        for (int hour = 0; hour < 12; hour++) {
            x.rises(hour, hour == 1 ? 38 : hour == 6 ? 12 : 20);
        }
        Check.due("tended once", x.tended(0, 0), 1);
        Check.due("tended once, late", x.tended(0, 1), 64);
        x.rises(1, 20);
        Check.due("tended never", x.tended(0, 0), 0);
        Check.due("tended at no hour", x.tended(0, 1), 0);
        // Of one that may come no foot far just one LENGTH is good at each hour.
        HangsAtLowWater y = Check.told("r2040;b0000401000;", "t0612;");
        Check.due("one length at each hour", y.tended(0, 0), 2);
        Check.due("one length at each hour: when", y.tended(0, 1), 64 + 128);
    }

    private static void slackAndSaves() {
        HangsAtLowWater x = Check.told("r2040;r6038;b1901401020;b0000111020;");
        Check.due("slack(0)", x.slack(0), 13);
        Check.due("slack(1)", x.slack(1), -7);
        int[] saves = {0, -9, 0, 18, -11, 0};
        for (int kind = 0; kind < 6; kind++) {
            Check.due("saves(0, " + kind + ")", x.saves(0, kind), saves[kind]);
        }
        Check.due("its kind stays", x.boat(0, 0), 1);
        x.rises(4, 9);
        Check.due("slack at the worst hour", x.slack(1), -18);
        Check.due("legs at low water", x.saves(0, 5), 29 - 18);
        x.rises(4, 40);
        Check.due("a pole under water", x.saves(0, 3), 18 - 2);
    }

    private static void refusals() {
        Check.refused(LineTest::legs, "needs(1, 0)", -1, x -> x.needs(1, 0));
        Check.refused(LineTest::legs, "needs(-1, 0)", -1, x -> x.needs(-1, 0));
        Check.refused(LineTest::legs, "needs(0, 12)", -1, x -> x.needs(0, 12));
        Check.refused(LineTest::legs, "needs(0, -1)", -1, x -> x.needs(0, -1));
        Check.refused(LineTest::legs, "out(1, 0)", -1, x -> x.out(1, 0));
        Check.refused(LineTest::legs, "out(0, 12)", -1, x -> x.out(0, 12));
        Check.refusedFar(LineTest::legs, "lies(1, 0, 3)", -1, x -> x.lies(1, 0, 3));
        Check.refusedFar(LineTest::legs, "lies(0, 12, 0)", -1, x -> x.lies(0, 12, 0));
        Check.refusedFar(LineTest::legs, "lies(0, 0, 3)", -2, x -> x.lies(0, 0, 3));
        Check.refusedFar(LineTest::legs, "lies(0, 0, -1)", -2, x -> x.lies(0, 0, -1));
        Check.refused(LineTest::legs, "hours(1, 4)", -1, x -> x.hours(1, 4));
        Check.refused(LineTest::legs, "hours(0, 4)", -2, x -> x.hours(0, 4));
        Check.refused(LineTest::legs, "hours(0, -1)", -2, x -> x.hours(0, -1));
        Check.refused(LineTest::legs, "length(1, 3)", -1, x -> x.length(1, 3));
        Check.refused(LineTest::legs, "length(0, 3)", -2, x -> x.length(0, 3));
        Check.refused(LineTest::legs, "length(0, -1)", -2, x -> x.length(0, -1));
        Check.refused(LineTest::legs, "tended(-1, 2)", -1, x -> x.tended(-1, 2));
        Check.refused(LineTest::legs, "tended(0, 2)", -2, x -> x.tended(0, 2));
        Check.refused(LineTest::legs, "tended(0, -1)", -2, x -> x.tended(0, -1));
        Check.refusedFar(LineTest::legs, "slack(1)", -1, x -> x.slack(1));
        Check.refusedFar(LineTest::legs, "slack(-1)", -1, x -> x.slack(-1));
        Check.refusedFar(LineTest::legs, "saves(1, 6)", -1, x -> x.saves(1, 6));
        Check.refusedFar(LineTest::legs, "saves(0, 6)", -2, x -> x.saves(0, 6));
        Check.refusedFar(LineTest::legs, "saves(0, -1)", -2, x -> x.saves(0, -1));
    }
}
