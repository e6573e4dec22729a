/** Promises 1 to 3: a new object, letters, a quay told in letters and its faults. */
public final class QuayTest {
    private static final String RINGS = "r2040;r6038;";

    public static void main(String[] arguments) {
        aNewObject();
        letters();
        statements();
        strangeLetters();
        wrongStatements();
        withAFaultNothingComes();
        Check.finish();
    }

    private static void aNewObject() {
        HangsAtLowWater x = new HangsAtLowWater();
        int[] want = {0, 0, 0, 60, 2, 0, 0, 0, 0, 0, 0, 0, 0, 0, 0, 0, 0, 0};
        for (int what = 0; what < want.length; what++) {
            Check.due("new: count(" + what + ")", x.count(what), want[what]);
        }
        for (int hour = 0; hour < 12; hour++) {
            Check.due("new: tide(" + hour + ")", x.tide(hour), 20);
            Check.due("new: wind(" + hour + ")", x.wind(hour), 0);
        }
        Check.due("new: back()", x.back(), -3);
        Check.due("new: restore()", x.restore(), -3);
    }

    private static HangsAtLowWater full() {
        HangsAtLowWater x = new HangsAtLowWater();
        for (int i = 1; i <= 96; i++) {
            Check.due("feed number " + i, x.feed(i == 1 ? 0 : 255), i);
        }
        return x;
    }

    private static void letters() {
        Check.refused(HangsAtLowWater::new, "feed(-1)", -4, x -> x.feed(-1));
        Check.refused(HangsAtLowWater::new, "feed(256)", -6, x -> x.feed(256));
        Check.refused(QuayTest::full, "feed of one too many", -6, x -> x.feed('t'));
        Check.refused(QuayTest::full, "full: feed(-1)", -4, x -> x.feed(-1));
        HangsAtLowWater x = full();
        Check.due("full: quay()", x.quay(), -1000);
        Check.due("letters behind a fault", x.count(7), 0);
        Check.due("feed behind a fault", x.feed('r'), 1);
    }

    private static void statements() {
        HangsAtLowWater x = Check.told("r2040;r9900;b4910990120;", "t1139;t0000;w11-9;w00+9;w01-0;l007;e00;e59;");
        int[] boat = {4, 9, 1, 0, 7, 1, 20};
        for (int what = 0; what < boat.length; what++) {
            Check.due("boat(0, " + what + ")", x.boat(0, what), boat[what]);
        }
        Check.due("ring(0, 0)", x.ring(0, 0), 20);
        Check.due("ring(0, 1)", x.ring(0, 1), 40);
        Check.due("ring(1, 0)", x.ring(1, 0), 99);
        Check.due("ring(1, 1)", x.ring(1, 1), 0);
        Check.due("tide(11)", x.tide(11), 39);
        Check.due("tide(0)", x.tide(0), 0);
        Check.due("wind(11)", x.wind(11), -9);
        Check.due("wind(0)", x.wind(0), 9);
        Check.due("wind(1)", x.wind(1), 0);
        Check.due("edge", x.count(3), 59);
        Check.due("letters", x.count(7), 0);
        Check.due("quay of 16 statements", Check.quay(x, "t0040;".repeat(16)), 16);
        Check.due("tide(0) then", x.tide(0), 40);
    }

    private static void strange(String text, int place) {
        HangsAtLowWater x = new HangsAtLowWater();
        Check.due("quay of " + text, Check.quay(x, text), -1000 - place);
        Check.due("letters behind " + text, x.count(7), 0);
        for (int refusal = 11; refusal <= 16; refusal++) {
            Check.due("refusals behind " + text, x.count(refusal), 0);
        }
    }

    private static void strangeLetters() {
        strange("", 0);
        strange("x", 0);
        strange(";", 0);
        strange("T0005;", 0);
        strange("r", 1);
        strange("r20", 3);
        strange("r2040", 5);
        strange("r20400;", 5);
        strange("r2040;;", 6);
        strange("r2040;t", 7);
        strange("r2a40;", 2);
        strange("r2/40;", 2);
        strange("r2:40;", 2);
        strange("t000;", 4);
        strange("w0015;", 3);
        strange("w00+;", 4);
        strange("w00+15;", 5);
        strange("w00*5;", 3);
        strange("b0000401033", 11);
        strange("b000040103;", 10);
        strange("l00;", 3);
        strange("e6;", 2);
        strange("e600;", 3);
        // Of both kinds the strange letter is told, even behind a statement that is not as it must be.
        strange("t1241;e6", 8);
    }

    private static void wrong(String ahead, String text, int place) {
        HangsAtLowWater x = ahead.isEmpty() ? new HangsAtLowWater() : Check.told(ahead);
        Check.due("quay of " + text, Check.quay(x, text), -2000 - place);
        Check.due("letters behind " + text, x.count(7), 0);
        for (int refusal = 11; refusal <= 16; refusal++) {
            Check.due("refusals behind " + text, x.count(refusal), 0);
        }
    }

    private static void wrongStatements() {
        wrong("", "t1200;", 0);
        wrong("", "t0041;", 0);
        wrong("", "w12+1;", 0);
        wrong("", "r0061;", 0);
        wrong("", "e61;", 0);
        wrong("", "l010;", 0);
        wrong("", "b0000401033;", 0);
        wrong("", "r2040;b0001401033;", 6);
        wrong("", "r2040;b0010401033;", 6);
        wrong(RINGS, "b6000401033;", 0);
        wrong(RINGS, "b0000400033;", 0);
        wrong(RINGS, "b0000402133;", 0);
        wrong(RINGS, "e60;b0002401033;", 4);
        wrong(RINGS, "b0000400133;b0000402033;l210;l110;", 24);
        wrong(RINGS + "r0000;r0000;r0000;", "e60;r0000;r0000;", 10);
        wrong(RINGS + "b0000401033;".repeat(5), "b0000401033;", 0);
        // A boat may lie at a ring that comes ahead of it in the same text, and at one ring twice.
        HangsAtLowWater x = Check.told(RINGS + "b0110001099;r1010;b5222992000;l000;l199;");
        Check.due("boats", x.count(0), 2);
        Check.due("boat(1, 3)", x.boat(1, 3), 2);
        Check.due("lengths", x.count(5), 99);
    }

    private static void withAFaultNothingComes() {
        HangsAtLowWater x = Check.told(RINGS + "b0000401033;");
        Check.due("pay", x.pay(0, 41), 40);
        String all = "t0001;w00+5;e10;r0101;l050;b1111111111;";
        Check.due("wrong at the end", Check.quay(x, all + "t1200;"), -2039);
        Check.due("strange at the end", Check.quay(x, all + "t"), -1040);
        Check.due("tide", x.tide(0), 20);
        Check.due("wind", x.wind(0), 0);
        Check.due("edge", x.count(3), 60);
        Check.due("rings", x.count(1), 2);
        Check.due("boats", x.count(0), 1);
        Check.due("length", x.boat(0, 4), 41);
        Check.due("to be taken back behind faults", x.count(17), 1);
        Check.due("without a fault", Check.quay(x, all), 6);
        Check.due("to be taken back behind a quay", x.count(17), 0);
        Check.due("boats then", x.count(0), 2);
    }
}
