/** Promises 4 to 12, 33 and 50 to 52: what there is, lengths taken back, the image, counts. */
public final class HarbourTest {
    public static void main(String[] arguments) {
        tidesAndWinds();
        ringsAndBoats();
        payAndTie();
        setAndHour();
        takenBack();
        image();
        counts();
        Check.finish();
    }

    private static HangsAtLowWater harbour() {
        return Check.told("r2040;r6038;b1901402033;b0311990100;");
    }

    private static HangsAtLowWater paidHarbour() {
        HangsAtLowWater x = harbour();
        Check.due("pay(0, 41)", x.pay(0, 41), 40);
        Check.due("row(7)", x.row(7), 1);
        Check.due("ramp", x.ramp(30, 20), 0);
        return x;
    }

    private static void tidesAndWinds() {
        HangsAtLowWater x = Check.told("t0339;w05-7;w06+8;");
        Check.due("tide(3)", x.tide(3), 39);
        Check.due("wind(5)", x.wind(5), -7);
        Check.due("wind(6)", x.wind(6), 8);
        Check.due("rises(0, 0)", x.rises(0, 0), 20);
        Check.due("rises(0, 40)", x.rises(0, 40), 0);
        Check.due("tide(0)", x.tide(0), 40);
        Check.due("tide(1)", x.tide(1), 20);
        Check.due("rises(11, 7)", x.rises(11, 7), 20);
        Check.due("tide(11)", x.tide(11), 7);
        Check.refused(HarbourTest::paidHarbour, "tide(-1)", -1, y -> y.tide(-1));
        Check.refused(HarbourTest::paidHarbour, "tide(12)", -1, y -> y.tide(12));
        Check.refusedFar(HarbourTest::paidHarbour, "wind(-1)", -1, y -> y.wind(-1));
        Check.refusedFar(HarbourTest::paidHarbour, "wind(12)", -1, y -> y.wind(12));
        Check.refused(HarbourTest::paidHarbour, "rises(12, -1)", -1, y -> y.rises(12, -1));
        Check.refused(HarbourTest::paidHarbour, "rises(-1, 41)", -1, y -> y.rises(-1, 41));
        Check.refused(HarbourTest::paidHarbour, "rises(0, -1)", -4, y -> y.rises(0, -1));
        Check.refused(HarbourTest::paidHarbour, "rises(0, 41)", -6, y -> y.rises(0, 41));
    }

    private static void ringsAndBoats() {
        HangsAtLowWater x = harbour();
        Check.due("ring(1, 0)", x.ring(1, 0), 60);
        Check.due("ring(1, 1)", x.ring(1, 1), 38);
        int[] boat = {1, 9, 0, 1, 40, 20, 33};
        int[] other = {0, 3, 1, 1, 99, 1, 0};
        for (int what = 0; what < 7; what++) {
            Check.due("boat(0, " + what + ")", x.boat(0, what), boat[what]);
            Check.due("boat(1, " + what + ")", x.boat(1, what), other[what]);
        }
        Check.refused(HarbourTest::paidHarbour, "ring(2, 2)", -1, y -> y.ring(2, 2));
        Check.refused(HarbourTest::paidHarbour, "ring(-1, 0)", -1, y -> y.ring(-1, 0));
        Check.refused(HarbourTest::paidHarbour, "ring(0, 2)", -2, y -> y.ring(0, 2));
        Check.refused(HarbourTest::paidHarbour, "ring(0, -1)", -2, y -> y.ring(0, -1));
        Check.refused(HarbourTest::paidHarbour, "boat(2, 7)", -1, y -> y.boat(2, 7));
        Check.refused(HarbourTest::paidHarbour, "boat(-1, 0)", -1, y -> y.boat(-1, 0));
        Check.refused(HarbourTest::paidHarbour, "boat(0, 7)", -2, y -> y.boat(0, 7));
        Check.refused(HarbourTest::paidHarbour, "boat(0, -1)", -2, y -> y.boat(0, -1));
    }

    private static void payAndTie() {
        HangsAtLowWater x = harbour();
        Check.due("pay(1, 0)", x.pay(1, 0), 99);
        Check.due("pay(1, 99)", x.pay(1, 99), 0);
        Check.due("length", x.boat(1, 4), 99);
        Check.due("length of the other", x.boat(0, 4), 40);
        Check.due("tie(0, 1)", x.tie(0, 1), 0);
        Check.due("its ring", x.boat(0, 2), 1);
        Check.due("its other ring", x.boat(0, 3), 1);
        Check.due("tie(0, 1) again", x.tie(0, 1), 1);
        Check.due("tie(0, 0)", x.tie(0, 0), 1);
        Check.refused(HarbourTest::paidHarbour, "pay(2, -1)", -1, y -> y.pay(2, -1));
        Check.refused(HarbourTest::paidHarbour, "pay(-1, 100)", -1, y -> y.pay(-1, 100));
        Check.refused(HarbourTest::paidHarbour, "pay(0, -1)", -4, y -> y.pay(0, -1));
        Check.refused(HarbourTest::paidHarbour, "pay(0, 100)", -6, y -> y.pay(0, 100));
        Check.refused(HarbourTest::paidHarbour, "tie(2, 0)", -1, y -> y.tie(2, 0));
        Check.refused(HarbourTest::paidHarbour, "tie(-1, 0)", -1, y -> y.tie(-1, 0));
        Check.refused(HarbourTest::paidHarbour, "tie(0, 2)", -1, y -> y.tie(0, 2));
        Check.refused(HarbourTest::paidHarbour, "tie(0, -1)", -1, y -> y.tie(0, -1));
    }

    private static void setAndHour() {
        HangsAtLowWater x = new HangsAtLowWater();
        Check.due("set(0, 0)", x.set(0, 0), 60);
        Check.due("set(0, 60)", x.set(0, 60), 0);
        Check.due("set(1, 9)", x.set(1, 9), 2);
        Check.due("set(1, 0)", x.set(1, 0), 9);
        Check.due("edge", x.count(3), 60);
        Check.due("bow", x.count(4), 0);
        for (int i = 1; i <= 13; i++) {
            Check.due("hour() number " + i, x.hour(), i % 12);
        }
        Check.due("hour", x.count(2), 1);
        Check.refused(HarbourTest::paidHarbour, "set(2, -1)", -2, y -> y.set(2, -1));
        Check.refused(HarbourTest::paidHarbour, "set(-1, 61)", -2, y -> y.set(-1, 61));
        Check.refused(HarbourTest::paidHarbour, "set(0, -1)", -4, y -> y.set(0, -1));
        Check.refused(HarbourTest::paidHarbour, "set(1, -1)", -4, y -> y.set(1, -1));
        Check.refused(HarbourTest::paidHarbour, "set(0, 61)", -6, y -> y.set(0, 61));
        Check.refused(HarbourTest::paidHarbour, "set(1, 10)", -6, y -> y.set(1, 10));
    }

    private static void takenBack() {
        HangsAtLowWater x = harbour();
        for (int i = 1; i <= 9; i++) {
            x.pay(i % 2, 40 + i);
        }
        Check.due("to be taken back", x.count(17), 8);
        // The first one, of boat 1, is older than eight: its 99 are gone.
        int[] was = {47, 46, 45, 44, 43, 42, 41, 40};
        for (int i = 0; i < 8; i++) {
            int boat = (9 - i) % 2;
            Check.due("back() number " + i, x.back(), boat);
            Check.due("its length then", x.boat(boat, 4), was[i]);
        }
        Check.due("to be taken back then", x.count(17), 0);
        Check.due("back() of none", x.back(), -3);
        Check.due("length of boat 1", x.boat(1, 4), 41);
        Check.due("length of boat 0", x.boat(0, 4), 40);
        Check.refused(HarbourTest::harbour, "back()", -3, HangsAtLowWater::back);
        leaveNone();
    }

    private static void leaveNone() {
        HangsAtLowWater x = paidHarbour();
        Check.due("pay of the same", x.pay(0, 41), 41);
        x.rises(0, 5);
        x.set(0, 50);
        x.pay(0, 100);
        x.restore();
        x.tie(0, 2);
        Check.due("by none of these", x.count(17), 2);
        Check.due("tie(0, 0)", x.tie(0, 0), 0);
        Check.due("by tie()", x.count(17), 0);
        x.pay(0, 3);
        Check.quay(x, "e61;");
        Check.quay(x, "e");
        Check.due("by faults", x.count(17), 1);
        Check.quay(x, "e60;");
        Check.due("by a quay", x.count(17), 0);
        x.pay(1, 5);
        Check.due("back() of boat 1 alone", x.back(), 1);
        x.pay(0, 5);
        x.image();
        Check.due("by image()", x.count(17), 1);
        x.restore();
        Check.due("by restore()", x.count(17), 0);
    }

    private static void image() {
        HangsAtLowWater x = paidHarbour();
        x.spring(4);
        x.hour();
        Check.due("image()", x.image(), 1);
        Check.due("quay", Check.quay(x, "r0101;b0111111111;t0001;w00+5;e10;l050;"), 6);
        x.hour();
        x.set(1, 7);
        x.spring(9);
        x.ramp(1, 1);
        x.tie(1, 0);
        x.row(8);
        x.feed('e');
        x.tide(99);
        Check.due("restore()", x.restore(), 1);
        int[] want = {2, 2, 1, 60, 2, 140, 0, 1, 2, 4, 1, 1, 0, 0, 0, 0, 0, 0};
        for (int what = 0; what < want.length; what++) {
            Check.due("restored: count(" + what + ")", x.count(what), want[what]);
        }
        Check.due("restored: tide(0)", x.tide(0), 20);
        Check.due("restored: wind(0)", x.wind(0), 0);
        Check.due("restored: boat(1, 2)", x.boat(1, 2), 1);
        Check.due("restored: slope(0, 0)", x.slope(0, 0), 50);
        x.pay(0, 9);
        x.rises(2, 9);
        Check.due("restore() again", x.restore(), 1);
        Check.due("restored again: length", x.boat(0, 4), 41);
        Check.due("restored again: tide(2)", x.tide(2), 20);
        Check.refused(HarbourTest::paidHarbour, "restore()", -3, HangsAtLowWater::restore);
    }

    private static void counts() {
        HangsAtLowWater x = harbour();
        x.rises(1, 0);
        Check.due("boats that hang at hour 0", x.count(6), 0);
        x.pay(1, 35);
        Check.due("boats that hang at hour 0 still", x.count(6), 0);
        x.hour();
        // At hour 1 the drops are 38 and 36: 42 is the least for two lines, and 35 is below 36.
        Check.due("boats that hang at hour 1", x.count(6), 2);
        x.pay(0, 43);
        Check.due("boats that hang with more line", x.count(6), 1);
        Check.due("lengths", x.count(5), 78);
        Check.due("count(18)", x.count(18), -9);
        Check.due("count(-1)", x.count(-1), -9);
        x.tide(-1);
        x.ring(0, 2);
        x.ring(0, 3);
        x.restore();
        x.feed(-1);
        x.row(100);
        int[] want = {1, 2, 1, 1, 0, 1};
        for (int i = 0; i < 6; i++) {
            Check.due("count(" + (11 + i) + ")", x.count(11 + i), want[i]);
        }
    }
}
