import java.util.Arrays;

/** What there is, at its edges: at first, the least and the greatest, taken BACK, the image, round the day. */
public final class HarbourEdgesTest {
    public static void main(String[] arguments) {
        atFirst();
        nothingIsThere();
        tidesOfEachHour();
        edgeAndBow();
        hourRound();
        eachRingAndBoat();
        tied();
        paid();
        takenBackAcrossBoats();
        takenBackAmongRefusals();
        nothingToTakeBack();
        imageOfNothing();
        imageOfAll();
        theLaterImage();
        whatNoImageHolds();
        counts();
        hangingNow();
        Check.finish();
    }

    private static final String FULL = "r0060;r9900;r1022;r2023;r3024;r4025;b0000001000;b1901992099;b2012501010;"
            + "b3523401133;b4945301244;";

    private static void due(String which, int[] got, int[] want) {
        Check.due(which + ": " + Arrays.toString(got) + ", due " + Arrays.toString(want),
                Arrays.equals(got, want) ? 1 : 0, 1);
    }

    private static void atFirst() {
        HangsAtLowWater x = new HangsAtLowWater();
        int[] counts = {0, 0, 0, 60, 2, 0, 0, 0, 0, 0, 0, 0, 0, 0, 0, 0, 0, 0, -9};
        for (int what = 0; what < counts.length; what++) {
            Check.due("at first: count(" + what + ")", x.count(what), counts[what]);
        }
        Check.due("EDGE at first", x.set(0, 1), 60);
        Check.due("BOW at first", x.set(1, 1), 2);
        Check.due("SPRING at first", x.spring(1), 0);
        Check.due("the HOUR behind the first", x.hour(), 1);
        for (int hour = 0; hour < 12; hour++) {
            Check.due("TIDE at first", x.rises(hour, 1), 20);
            Check.due("WIND at first", x.wind(hour), 0);
            Check.due("CROSSED at first", x.crossed(hour), 0);
        }
    }

    private static void nothingIsThere() {
        Check.due("no RING 0", new HangsAtLowWater().ring(0, 0), -1);
        Check.due("no BOAT 0", new HangsAtLowWater().boat(0, 0), -1);
        Check.due("no RAMP 0", new HangsAtLowWater().open(0, 0), -1);
        Check.due("nothing BACK", new HangsAtLowWater().back(), -3);
        Check.due("no image", new HangsAtLowWater().restore(), -3);
        Check.due("no letters", new HangsAtLowWater().quay(), -1000);
        Check.due("no ROW", new HangsAtLowWater().drop(), 0);
    }

    private static void tidesOfEachHour() {
        for (int hour = 0; hour < 12; hour++) {
            HangsAtLowWater x = new HangsAtLowWater();
            int was = 20;
            for (int tide = 0; tide <= 40; tide++) {
                Check.due("TIDE at " + hour + " was", x.rises(hour, tide), was);
                Check.due("TIDE at " + hour, x.tide(hour), tide);
                was = tide;
            }
            Check.due("above 40", x.rises(hour, 41), -6);
            Check.due("below 0", x.rises(hour, -1), -4);
            Check.due("TIDE at " + hour + " then", x.tide(hour), 40);
            for (int other = 0; other < 12; other++) {
                Check.due("TIDE at " + other, x.tide(other), other == hour ? 40 : 20);
            }
        }
    }

    private static void edgeAndBow() {
        HangsAtLowWater x = new HangsAtLowWater();
        int was = 60;
        for (int edge = 0; edge <= 60; edge++) {
            Check.due("EDGE was", x.set(0, edge), was);
            Check.due("EDGE", x.count(3), edge);
            was = edge;
        }
        was = 2;
        for (int bow = 0; bow <= 9; bow++) {
            Check.due("BOW was", x.set(1, bow), was);
            Check.due("BOW", x.count(4), bow);
            was = bow;
        }
        Check.due("EDGE 61", x.set(0, 61), -6);
        Check.due("BOW 10", x.set(1, 10), -6);
        Check.due("EDGE still", x.count(3), 60);
        Check.due("BOW still", x.count(4), 9);
    }

    private static void hourRound() {
        HangsAtLowWater x = new HangsAtLowWater();
        for (int i = 1; i <= 50; i++) {
            Check.due("hour() number " + i, x.hour(), i % 12);
            Check.due("HOUR behind " + i, x.count(2), i % 12);
            Check.due("image behind " + i, x.image(), i % 12);
        }
    }

    private static void eachRingAndBoat() {
        HangsAtLowWater x = Check.told(FULL);
        int[][] rings = {{0, 60}, {99, 0}, {10, 22}, {20, 23}, {30, 24}, {40, 25}};
        for (int ring = 0; ring < 6; ring++) {
            due("RING " + ring, new int[] {x.ring(ring, 0), x.ring(ring, 1)}, rings[ring]);
        }
        int[][] boats = {{0, 0, 0, 0, 0, 10, 0}, {1, 9, 0, 1, 99, 20, 99}, {2, 0, 1, 2, 50, 10, 10},
            {3, 5, 2, 3, 40, 11, 33}, {4, 9, 4, 5, 30, 12, 44}};
        for (int boat = 0; boat < 5; boat++) {
            int[] got = new int[7];
            for (int what = 0; what < 7; what++) {
                got[what] = x.boat(boat, what);
            }
            due("BOAT " + boat, got, boats[boat]);
        }
        Check.due("no RING 6", x.ring(6, 0), -1);
        Check.due("no BOAT 5", x.boat(5, 0), -1);
    }

    private static void tied() {
        HangsAtLowWater x = Check.told(FULL);
        int was = 4;
        for (int ring = 0; ring < 6; ring++) {
            Check.due("tie(4, " + ring + ")", x.tie(4, ring), was);
            Check.due("RING of BOAT 4", x.boat(4, 2), ring);
            Check.due("the other one", x.boat(4, 3), 5);
            was = ring;
        }
        Check.due("tie(4, 5) to where it is", x.tie(4, 5), 5);
        Check.due("tie(4, 6)", x.tie(4, 6), -1);
        Check.due("tie(5, 0)", x.tie(5, 0), -1);
        Check.due("RING of BOAT 4 still", x.boat(4, 2), 5);
        Check.due("RING of BOAT 3", x.boat(3, 2), 2);
    }

    private static void paid() {
        HangsAtLowWater x = Check.told(FULL);
        int was = 30;
        for (int length = 0; length <= 99; length++) {
            Check.due("pay(4, " + length + ")", x.pay(4, length), was);
            Check.due("LENGTH of BOAT 4", x.boat(4, 4), length);
            was = length;
        }
        Check.due("pay(4, 100)", x.pay(4, 100), -6);
        Check.due("pay(4, -1)", x.pay(4, -1), -4);
        Check.due("LENGTH of BOAT 4 still", x.boat(4, 4), 99);
        Check.due("that can be taken BACK", x.count(17), 8);
        for (int i = 1; i <= 8; i++) {
            Check.due("BACK number " + i, x.back(), 4);
            Check.due("LENGTH behind BACK number " + i, x.boat(4, 4), 99 - i);
            Check.due("that can be taken BACK then", x.count(17), 8 - i);
        }
        Check.due("the ninth BACK", x.back(), -3);
        Check.due("LENGTH behind it", x.boat(4, 4), 91);
    }

    private static void takenBackAcrossBoats() {
        for (int many = 1; many <= 12; many++) {
            HangsAtLowWater x = Check.told(FULL);
            int[][] lengths = new int[many + 1][];
            lengths[0] = new int[] {0, 99, 50, 40, 30};
            for (int i = 1; i <= many; i++) {
                lengths[i] = lengths[i - 1].clone();
                lengths[i][i % 5] = 60 + i;
                Check.due("pay number " + i, x.pay(i % 5, 60 + i), lengths[i - 1][i % 5]);
                Check.due("that can be taken BACK", x.count(17), Math.min(8, i));
            }
            for (int i = many; i > Math.max(0, many - 8); i--) {
                Check.due("BACK of " + many + ", number " + i, x.back(), i % 5);
                for (int boat = 0; boat < 5; boat++) {
                    Check.due("LENGTH of " + boat + " ahead of " + i, x.boat(boat, 4), lengths[i - 1][boat]);
                }
            }
            Check.due("no more BACK", x.back(), -3);
        }
    }

    /** What is refused, or a FAULT, leaves all that can be taken BACK. */
    private static void takenBackAmongRefusals() {
        HangsAtLowWater x = Check.told(FULL);
        x.pay(2, 7);
        x.pay(2, 7);
        Check.due("the same LENGTH again is one more", x.count(17), 2);
        x.pay(5, 7);
        x.pay(2, 100);
        x.pay(2, -1);
        x.tie(2, 6);
        x.tie(5, 2);
        x.restore();
        Check.quay(x, "l2");
        Check.quay(x, "l255;e61;");
        x.quay();
        x.set(0, 7);
        x.rises(0, 7);
        x.image();
        x.hour();
        Check.due("two still", x.count(17), 2);
        Check.due("BACK to the same", x.back() * 100 + x.boat(2, 4), 207);
        x.pay(3, 8);
        Check.due("BACK of the one that was paid in between", x.back() * 100 + x.boat(3, 4), 340);
        Check.due("BACK to what it was", x.back() * 100 + x.boat(2, 4), 250);
        Check.due("BACK of none", x.back(), -3);
    }

    private static void nothingToTakeBack() {
        HangsAtLowWater x = Check.told(FULL);
        x.image();
        x.pay(0, 1);
        Check.due("tie() to where it is", x.tie(0, 0), 0);
        Check.due("leaves none", x.count(17), 0);
        Check.due("nor any BACK", x.back(), -3);
        Check.due("its LENGTH stays", x.boat(0, 4), 1);
        x.pay(0, 2);
        Check.quay(x, "l003;");
        Check.due("a QUAY leaves none", x.back(), -3);
        Check.due("its LENGTH by the QUAY", x.boat(0, 4), 3);
        x.pay(0, 4);
        x.pay(1, 5);
        Check.due("restore()", x.restore(), 0);
        Check.due("leaves none to be taken BACK", x.back(), -3);
        Check.due("its LENGTH by the image", x.boat(0, 4), 0);
        x.pay(0, 6);
        Check.due("one paid behind it", x.back() * 100 + x.boat(0, 4), 0);
    }

    private static void imageOfNothing() {
        HangsAtLowWater x = new HangsAtLowWater();
        int[] first = Check.all(x);
        Check.due("image()", x.image(), 0);
        Check.quay(x, FULL);
        for (int i = 0; i < 3; i++) {
            x.ramp(60, 40 - i);
        }
        x.spring(9);
        x.set(0, 0);
        x.set(1, 0);
        x.hour();
        x.rises(11, 40);
        Check.due("restore()", x.restore(), 0);
        due("as at first", Check.all(x), first);
        Check.due("a RAMP again", x.ramp(10, 1), 0);
        Check.due("its SLOPE", x.slope(0, 0), 1000);
        Check.due("a QUAY again", Check.quay(x, "r0122;b0000071000;"), 2);
        Check.due("its RING", x.ring(0, 0), 1);
        Check.due("its BOAT", x.boat(0, 4), 7);
    }

    private static void imageOfAll() {
        HangsAtLowWater x = Check.told(FULL, "t0001;t1139;w00-9;w11+9;e59;");
        x.spring(9);
        x.set(1, 9);
        for (int i = 0; i < 3; i++) {
            x.ramp(20 * i, 1 + i);
        }
        for (int i = 0; i < 11; i++) {
            x.hour();
        }
        int[] then = Check.all(x);
        Check.due("image() at 11", x.image(), 11);
        Check.quay(x, "t0000;t1140;w00+0;w11-8;e00;l088;l499;");
        x.spring(0);
        x.set(1, 0);
        Check.due("hour() to 0", x.hour(), 0);
        x.tie(0, 5);
        Check.due("restore() to 11", x.restore(), 11);
        due("as then", Check.all(x), then);
        Check.due("hour() to 0 again", x.hour(), 0);
        x.rises(5, 5);
        x.pay(3, 3);
        Check.due("restore() once more", x.restore(), 11);
        due("as then once more", Check.all(x), then);
    }

    private static void theLaterImage() {
        HangsAtLowWater x = Check.told("r0122;b0000071000;");
        x.image();
        x.pay(0, 8);
        x.hour();
        Check.due("the later image()", x.image(), 1);
        x.pay(0, 9);
        x.hour();
        Check.due("restore()", x.restore(), 1);
        Check.due("the later one's LENGTH", x.boat(0, 4), 8);
        x.pay(0, 10);
        Check.due("restore() again", x.restore(), 1);
        Check.due("the later one's LENGTH again", x.boat(0, 4), 8);
    }

    /** Not the letters, the ROW and the REFUSALS; nor is there an image less behind restore(). */
    private static void whatNoImageHolds() {
        HangsAtLowWater x = new HangsAtLowWater();
        x.feed('e');
        x.row(3);
        x.tide(12);
        x.image();
        x.feed('0');
        x.row(4);
        x.tide(12);
        x.drop();
        x.row(5);
        Check.due("restore()", x.restore(), 0);
        Check.due("letters", x.count(7), 2);
        Check.due("in the ROW", x.count(8), 1);
        Check.due("REFUSALS", x.count(11), 2);
        x.feed('7');
        x.feed(';');
        Check.due("the QUAY goes on", x.quay(), 1);
        Check.due("its EDGE", x.count(3), 7);
        x.image();
        x.drop();
        Check.due("restore() behind an empty ROW", x.restore(), 0);
        Check.due("in the ROW then", x.count(8), 0);
    }

    private static void counts() {
        HangsAtLowWater x = Check.told(FULL);
        int[] others = {-1, 18, 19, 100, Integer.MAX_VALUE, Integer.MIN_VALUE};
        for (int what : others) {
            Check.due("count(" + what + ")", x.count(what), -9);
        }
        due("no REFUSALS by them", Check.refusals(x), new int[6]);
        Check.due("BOATS", x.count(0), 5);
        Check.due("RINGS", x.count(1), 6);
        Check.due("all LENGTHS", x.count(5), 219);
        for (int boat = 0; boat < 5; boat++) {
            x.pay(boat, 99);
        }
        Check.due("the most of all LENGTHS", x.count(5), 495);
        for (int boat = 0; boat < 5; boat++) {
            x.pay(boat, 0);
        }
        Check.due("none of all LENGTHS", x.count(5), 0);
    }

    /** How many hang at HOUR, not at another: all, one by one fewer, none. */
    private static void hangingNow() {
        HangsAtLowWater x = Check.told("r2042;" + "b0000191000;".repeat(5));
        for (int hour = 1; hour < 12; hour++) {
            x.rises(hour, 40);
        }
        for (int boat = 0; boat < 5; boat++) {
            Check.due("that hang", x.count(6), 5 - boat);
            x.pay(boat, 20);
        }
        Check.due("that hang of all", x.count(6), 0);
        x.pay(3, 19);
        for (int hour = 1; hour <= 12; hour++) {
            x.hour();
            Check.due("that hang at " + hour % 12, x.count(6), hour == 12 ? 1 : 0);
        }
    }
}
