import java.util.Arrays;

/**
 * A quay told in letters, at its edges: each place of each statement with each letter that there may
 * be, each number at its least and greatest and one above, none and as many as there may be.
 */
public final class QuayEdgesTest {
    /** What stands at each place of each statement: # a digit, + a sign, else that letter. */
    private static final String[] SHAPES = {"t####;", "w##+#;", "r####;", "b##########;", "l###;", "e##;"};
    /** One of each that is taken behind RING and BOAT. */
    private static final String[] SAMPLES = {"t0105;", "w03-4;", "r2040;", "b0000401033;", "l012;", "e30;"};
    private static final String RING = "r2040;";
    private static final String BOAT = "b0000401033;";

    public static void main(String[] arguments) {
        eachLetterAtEachPlace();
        eachEnd();
        strangeAheadOfWrong();
        numbersOfTides();
        numbersOfWinds();
        numbersOfRings();
        numbersOfBoats();
        numbersOfLengths();
        numbersOfEdges();
        noRoom();
        asTheyCome();
        asManyAsThereMayBe();
        theFirstWrongOne();
        aFaultLeavesAll();
        Check.finish();
    }

    private static boolean mayStand(char shape, int letter) {
        if (shape == '#') {
            return letter >= '0' && letter <= '9';
        }
        return shape == '+' ? letter == '+' || letter == '-' : letter == shape;
    }

    private static int quayOf(HangsAtLowWater x, String ahead, int letter, String behind) {
        for (char c : ahead.toCharArray()) {
            x.feed(c);
        }
        x.feed(letter);
        for (char c : behind.toCharArray()) {
            x.feed(c);
        }
        return x.quay();
    }

    /** All 256 letters at each place: a strange one is told by its place, the first and only that it is. */
    private static void eachLetterAtEachPlace() {
        String ahead = RING + BOAT;
        for (int i = 0; i < SHAPES.length; i++) {
            for (int at = 0; at < SHAPES[i].length(); at++) {
                for (int letter = 0; letter < 256; letter++) {
                    checkLetter(ahead, SHAPES[i], SAMPLES[i], at, letter);
                }
            }
        }
    }

    private static void checkLetter(String ahead, String shape, String sample, int at, int letter) {
        HangsAtLowWater x = new HangsAtLowWater();
        String told = "letter " + letter + " at " + at + " of " + sample;
        boolean isStatement = at == 0 && "twrble".indexOf(letter) >= 0;
        int answer = quayOf(x, ahead + sample.substring(0, at), letter, sample.substring(at + 1));
        if (at > 0 && mayStand(shape.charAt(at), letter)) {
            Check.due(told + " is none that is strange", answer > -1000 || answer <= -2000 ? 1 : 0, 1);
        } else if (!isStatement) {
            Check.due(told, answer, -1000 - ahead.length() - at);
        } else if (letter == sample.charAt(0)) {
            Check.due(told, answer, 3);
        }
        Check.due(told + ": letters", x.count(7), 0);
        Check.due(told + ": refusals", Arrays.stream(Check.refusals(x)).sum(), 0);
    }

    /** Of what lacks something the end is told, wherever that is. */
    private static void eachEnd() {
        for (String sample : SAMPLES) {
            for (int end = 1; end < sample.length(); end++) {
                HangsAtLowWater x = new HangsAtLowWater();
                String text = RING + BOAT + sample.substring(0, end);
                Check.due("quay of " + text, Check.quay(x, text), -1000 - text.length());
                Check.due("alone: quay of " + sample.substring(0, end), Check.quay(x, sample.substring(0, end)),
                        -1000 - end);
            }
        }
        HangsAtLowWater x = new HangsAtLowWater();
        Check.due("no letter", x.quay(), -1000);
        Check.due("no letter again", x.quay(), -1000);
        Check.due("95 letters and a beginning", Check.quay(x, "e60;".repeat(23) + "e60"), -1095);
        Check.due("96 letters and a beginning", Check.quay(x, "t0005;".repeat(15) + "e60;t0"), -1096);
        Check.due("the last of 96 letters is strange", Check.quay(x, "e60;".repeat(23) + "e60."), -1095);
        Check.due("nothing came of these", x.tide(0), 20);
    }

    private static void strangeAheadOfWrong() {
        faulty("", "t1299;", "t1299;x", -1006);
        faulty("", "t1299;", "t1299;e6", -1008);
        faulty("", "t1299;e61;r0061", "t1299;e61;r0061", -1015);
        faulty("", "t1299;e61;r0061;", "t1299;e61;r0061;", -2000);
        faulty("", "x ahead of what is wrong", "xt1299;", -1000);
    }

    private static void faulty(String ahead, String what, String text, int due) {
        HangsAtLowWater x = ahead.isEmpty() ? new HangsAtLowWater() : Check.told(ahead);
        int[] before = Check.all(x);
        Check.due(what + ": quay of " + text, Check.quay(x, text), due);
        Check.due(what + ": nothing comes", Arrays.equals(before, Check.all(x)) ? 1 : 0, 1);
        Check.due(what + ": nothing is counted", Arrays.stream(Check.refusals(x)).sum(), 0);
    }

    /** A statement that is not as it must be: alone, and behind one that is. */
    private static void wrong(String ahead, String text) {
        faulty(ahead, "alone", text, -2000);
        faulty(ahead, "behind another", "w00+1;" + text, -2006);
        faulty(ahead, "ahead of another", text + "w00+1;", -2000);
    }

    private static void numbersOfTides() {
        for (int hour = 0; hour < 100; hour++) {
            for (int tide = 0; tide < 100; tide++) {
                HangsAtLowWater x = new HangsAtLowWater();
                String text = "t" + Check.two(hour) + Check.two(tide) + ";";
                boolean isTaken = hour <= 11 && tide <= 40;
                Check.due("quay of " + text, Check.quay(x, text), isTaken ? 1 : -2000);
                for (int h = 0; h < 12; h++) {
                    Check.due("tide(" + h + ") by " + text, x.tide(h), isTaken && h == hour ? tide : 20);
                }
            }
        }
        wrong("", "t1200;");
        wrong("", "t0041;");
        wrong("", "t1141;");
    }

    private static void numbersOfWinds() {
        for (int hour = 0; hour < 100; hour++) {
            for (int wind = -9; wind <= 9; wind++) {
                HangsAtLowWater x = new HangsAtLowWater();
                String text = "w" + Check.two(hour) + (wind < 0 ? "-" : "+") + Math.abs(wind) + ";";
                Check.due("quay of " + text, Check.quay(x, text), hour <= 11 ? 1 : -2000);
                for (int h = 0; h < 12; h++) {
                    Check.due("wind(" + h + ") by " + text, x.wind(h), h == hour ? wind : 0);
                }
            }
        }
        HangsAtLowWater x = Check.told("w05+9;w05-0;");
        Check.due("less nothing", x.wind(5), 0);
        wrong("", "w12-9;");
        wrong("", "w99+0;");
    }

    private static void numbersOfRings() {
        for (int place = 0; place < 100; place++) {
            for (int height = 0; height < 100; height++) {
                HangsAtLowWater x = new HangsAtLowWater();
                String text = "r" + Check.two(place) + Check.two(height) + ";";
                boolean isTaken = height <= 60;
                Check.due("quay of " + text, Check.quay(x, text), isTaken ? 1 : -2000);
                Check.due("rings by " + text, x.count(1), isTaken ? 1 : 0);
                Check.due("PLACE by " + text, x.ring(0, 0), isTaken ? place : -1);
                Check.due("HEIGHT by " + text, x.ring(0, 1), isTaken ? height : -1);
            }
        }
        wrong("", "r0061;");
        wrong("", "r9999;");
    }

    /** Each number of a BOAT alone at all that its digits may tell. */
    private static void numbersOfBoats() {
        for (int digit = 0; digit < 10; digit++) {
            boat("b" + digit + "000401033;", digit <= 5, 0, digit);
            boat("b0" + digit + "00401033;", true, 1, digit);
            boat("b00" + digit + "0401033;", digit <= 2, 2, digit);
            boat("b000" + digit + "401033;", digit <= 2, 3, digit);
        }
        for (int number = 0; number < 100; number++) {
            boat("b0000" + Check.two(number) + "1033;", true, 4, number);
            boat("b000040" + Check.two(number) + "33;", number >= 1 && number <= 20, 5, number);
            boat("b00004010" + Check.two(number) + ";", true, 6, number);
        }
        wrong(RING, "b0000400033;");
        wrong(RING, "b0000402133;");
        wrong(RING, "b6000401033;");
        wrong(RING, "b0010401033;");
        wrong(RING, "b0001401033;");
        wrong("", BOAT);
    }

    private static void boat(String text, boolean isTaken, int what, int due) {
        HangsAtLowWater x = Check.told(RING.repeat(3));
        Check.due("quay of " + text, Check.quay(x, text), isTaken ? 1 : -2000);
        Check.due("boats by " + text, x.count(0), isTaken ? 1 : 0);
        Check.due("boat(0, " + what + ") by " + text, x.boat(0, what), isTaken ? due : -1);
    }

    private static void numbersOfLengths() {
        for (int number = 0; number < 100; number++) {
            HangsAtLowWater x = Check.told(RING + BOAT + BOAT);
            Check.due("quay of l1" + Check.two(number), Check.quay(x, "l1" + Check.two(number) + ";"), 1);
            Check.due("its LENGTH", x.boat(1, 4), number);
            Check.due("the other's LENGTH", x.boat(0, 4), 40);
        }
        for (int boat = 0; boat < 10; boat++) {
            HangsAtLowWater x = Check.told(RING, BOAT.repeat(5));
            Check.due("l of BOAT " + boat, Check.quay(x, "l" + boat + "07;"), boat < 5 ? 1 : -2000);
            Check.due("all LENGTHS", x.count(5), boat < 5 ? 167 : 200);
        }
        wrong("", "l000;");
        wrong(RING + BOAT, "l100;");
        wrong(RING + BOAT.repeat(4), "l499;");
    }

    private static void numbersOfEdges() {
        for (int number = 0; number < 100; number++) {
            HangsAtLowWater x = new HangsAtLowWater();
            Check.due("quay of e" + Check.two(number), Check.quay(x, "e" + Check.two(number) + ";"), number <= 60 ? 1 : -2000);
            Check.due("EDGE by e" + Check.two(number), x.count(3), number <= 60 ? number : 60);
        }
        wrong("e07;", "e61;");
    }

    private static void noRoom() {
        HangsAtLowWater rings = new HangsAtLowWater();
        HangsAtLowWater boats = Check.told(RING);
        for (int i = 1; i <= 7; i++) {
            Check.due("RING number " + i, Check.quay(rings, RING), i <= 6 ? 1 : -2000);
            Check.due("RINGS then", rings.count(1), Math.min(i, 6));
            Check.due("BOAT number " + i, Check.quay(boats, BOAT), i <= 5 ? 1 : -2000);
            Check.due("BOATS then", boats.count(0), Math.min(i, 5));
        }
        wrong(RING.repeat(6), RING);
        wrong(RING + BOAT.repeat(5), BOAT);
        faulty("", "seven at once", RING.repeat(7), -2036);
        faulty(RING, "seven by two texts", RING.repeat(6), -2030);
        faulty(RING, "six BOATS at once", BOAT.repeat(6), -2060);
        faulty(RING + BOAT + BOAT, "six BOATS by two texts", BOAT.repeat(4), -2036);
        HangsAtLowWater five = Check.told(RING.repeat(6) + BOAT.repeat(5));
        Check.due("96 letters: RINGS", five.count(1), 6);
        Check.due("96 letters: BOATS", five.count(0), 5);
    }

    /** RINGS and BOATS get their numbers as they come; what is ahead in the text is there. */
    private static void asTheyCome() {
        HangsAtLowWater x = Check.told("r0100;r0200;b0001000100;", "r0300;b1222000100;l199;l098;");
        for (int ring = 0; ring < 3; ring++) {
            Check.due("PLACE of RING " + ring, x.ring(ring, 0), ring + 1);
        }
        Check.due("RING of BOAT 1", x.boat(1, 2), 2);
        Check.due("LENGTHS", x.boat(0, 4) * 100 + x.boat(1, 4), 9899);
        faulty("", "a BOAT ahead of its RING", BOAT + RING, -2000);
        faulty(RING, "a BOAT ahead of its other RING", "b0001401033;" + RING, -2000);
        faulty(RING, "a LENGTH ahead of its BOAT", "l000;" + BOAT, -2000);
        HangsAtLowWater y = Check.told("t0305;t0306;e10;e11;w02+1;w02-2;");
        Check.due("the later TIDE", y.tide(3), 6);
        Check.due("the later EDGE", y.count(3), 11);
        Check.due("the later WIND", y.wind(2), -2);
    }

    private static void asManyAsThereMayBe() {
        HangsAtLowWater x = new HangsAtLowWater();
        StringBuilder text = new StringBuilder();
        for (int i = 0; i < 24; i++) {
            text.append("e").append(Check.two(i)).append(";");
        }
        Check.feed(x, text.toString());
        Check.due("a letter too many", x.feed(';'), -6);
        Check.due("another that is too great as well", x.feed(256), -6);
        Check.due("another below", x.feed(-1), -4);
        Check.due("letters still", x.count(7), 96);
        Check.due("24 statements", x.quay(), 24);
        Check.due("the last of them", x.count(3), 23);
        Check.due("letters then", x.count(7), 0);
        Check.due("a letter then", x.feed('e'), 1);
        Check.due("one statement", Check.quay(new HangsAtLowWater(), "e59;"), 1);
        Check.due("sixteen of six letters", Check.quay(new HangsAtLowWater(), "t1140;".repeat(16)), 16);
        Check.due("eight BOATS' letters", Check.quay(Check.told(RING), BOAT.repeat(8)), -2060);
    }

    private static void theFirstWrongOne() {
        faulty("", "two wrong ones", "t0040;t0041;e60;t1200;", -2006);
        faulty("", "the last one of many", "e60;".repeat(23) + "e61;", -2092);
        faulty("", "the first one of many", "e61;".repeat(24), -2000);
    }

    private static void aFaultLeavesAll() {
        String all = "t0001;w00+5;e10;r0101;l050;b1111111111;";
        int[] places = {0, 6, 12, 16, 22, 27, 39};
        for (int place : places) {
            aFaultLeavesAll(all.substring(0, place), "t1200;", all.substring(place), -2000 - place);
            aFaultLeavesAll(all.substring(0, place), "x", all.substring(place), -1000 - place);
        }
    }

    private static void aFaultLeavesAll(String ahead, String faulty, String behind, int due) {
        HangsAtLowWater x = Check.told(RING + RING + BOAT);
        x.image();
        x.pay(0, 9);
        x.row(7);
        int[] before = Check.all(x);
        Check.due(faulty + " at " + ahead.length(), Check.quay(x, ahead + faulty + behind), due);
        Check.due("all is as it was", Arrays.equals(before, Check.all(x)) ? 1 : 0, 1);
        Check.due("in the ROW", x.drop(), 1);
        Check.due("its LENGTH ahead", x.back() * 100 + x.boat(0, 4), 40);
        x.pay(0, 8);
        Check.due("its LENGTH by the image", x.restore() * 100 + x.boat(0, 4), 40);
    }
}
