/** Lines that are seen to, at the edges: the first HOUR and the last, every HOUR another, no LENGTH that is good. */
public final class WatchEdgesTest {
    public static void main(String[] arguments) {
        oneOtherHour();
        everyHourAnother();
        noLengthIsGood();
        noLengthIsGoodOnce();
        noneNeeded();
        asLongAsCanBe();
        eachAsLateAsCanBe();
        toTheLastHour();
        anotherThanAhead();
        wakings();
        Check.finish();
    }

    /** A BOAT of LENGTH 0 at a RING 40 feet high; the TIDE may be 38 at most. */
    private static HangsAtLowWater boat(String boat, int... tides) {
        HangsAtLowWater x = Check.told("r2040;r6038;" + boat);
        for (int hour = 0; hour < 12; hour++) {
            x.rises(hour, tides[hour % tides.length]);
        }
        return x;
    }

    private static HangsAtLowWater tie(String far, int... tides) {
        return boat("b00000001" + far + ";", tides);
    }

    private static void tended(HangsAtLowWater x, String which, int changes, int when) {
        Check.due(which + ": changes", x.tended(0, 0), changes);
        Check.due(which + ": when", x.tended(0, 1), when);
    }

    private static void watched(HangsAtLowWater x, String which, int seldom, int... changes) {
        for (int k = 1; k <= 6; k++) {
            Check.due(which + ": watch each " + k, x.watch(0, k), changes[k - 1]);
        }
        Check.due(which + ": seldom", x.seldom(0), seldom);
    }

    private static void waked(HangsAtLowWater x, String which, int... hours) {
        for (int n = 0; n <= 3; n++) {
            Check.due(which + ": wake " + n, x.wake(0, n), hours[n]);
        }
    }

    /** Good are 20 .. 22 where TIDE is 18, 0 .. 10 where it is 38: nowhere alike. */
    private static void oneOtherHour() {
        for (int hour = 0; hour < 12; hour++) {
            HangsAtLowWater x = tie("10", 38);
            x.rises(hour, 18);
            String which = "other at " + hour;
            int when = (hour == 0 ? 0 : 1 << hour) | (hour == 11 ? 0 : 2 << hour);
            int changes = hour == 0 || hour == 11 ? 1 : 2;
            tended(x, which, changes, when);
            watched(x, which, 1, changes, -9, -9, -9, -9, -9);
            waked(x, which, 11, changes == 1 ? 12 : 11, 12, 12);
            Check.due(which + ": the LENGTH stays", x.count(5), 0);
        }
    }

    /** With no foot to spare one LENGTH alone is good: 0 where TIDE is 38, 18 where it is 20. */
    private static void everyHourAnother() {
        HangsAtLowWater x = tie("00", 38, 20);
        tended(x, "to and fro", 11, 4094);
        watched(x, "to and fro", 1, 11, -9, -9, -9, -9, -9);
        waked(x, "to and fro", 6, 7, 7, 8);
        HangsAtLowWater y = tie("00", 38, 38, 20, 20);
        tended(y, "two by two", 5, 4 + 16 + 64 + 256 + 1024);
        watched(y, "two by two", 2, 5, 5, -9, -9, -9, -9);
        waked(y, "two by two", 6, 8, 8, 10);
        HangsAtLowWater z = tie("00", 38, 38, 38, 20, 20, 20);
        watched(z, "three by three", 3, 3, -9, 3, -9, -9, -9);
        HangsAtLowWater four = tie("00", 38, 38, 38, 38, 20, 20, 20, 20, 37, 37, 37, 37);
        watched(four, "four by four", 4, 2, 2, -9, 2, -9, -9);
        HangsAtLowWater six = tie("00", 38, 38, 38, 38, 38, 38, 20, 20, 20, 20, 20, 20);
        watched(six, "six by six", 6, 1, 1, 1, -9, -9, 1);
        HangsAtLowWater five = tie("00", 38, 38, 38, 38, 38, 20, 20, 20, 20, 20, 36, 36);
        watched(five, "five by five", 5, 2, -9, -9, -9, 2, -9);
    }

    /** A row of 18 and 9 NEEDS 405: 20 feet hang, and 21 come 6 feet, cut 3, far. */
    private static void noLengthIsGood() {
        HangsAtLowWater x = boat("b4900000102;", 20);
        tended(x, "no LENGTH", -9, -9);
        watched(x, "no LENGTH", -9, -9, -9, -9, -9, -9, -9);
        waked(x, "no LENGTH", 0, 0, 0, 0);
        HangsAtLowWater y = boat("b4900000103;", 20);
        tended(y, "a foot farther", 0, 0);
        watched(y, "a foot farther", 6, 0, 0, 0, 0, 0, 0);
        waked(y, "a foot farther", 12, 12, 12, 12);
    }

    private static void noLengthIsGoodOnce() {
        for (int hour = 0; hour < 12; hour++) {
            // Where TIDE is 38 the row NEEDS 81 alone: 9 feet are good, and 10 come 4, cut 2, far.
            HangsAtLowWater x = boat("b4900000102;", 38);
            x.rises(hour, 20);
            tended(x, "none at " + hour, -9, -9);
            watched(x, "none at " + hour, -9, -9, -9, -9, -9, -9, -9);
            waked(x, "none at " + hour, 11, 11, 11, 11);
        }
    }

    /** Nothing needed and no foot to spare: good is no line at all. */
    private static void noneNeeded() {
        HangsAtLowWater x = tie("00", 38);
        tended(x, "no line", 0, 0);
        watched(x, "no line", 6, 0, 0, 0, 0, 0, 0);
        waked(x, "no line", 12, 12, 12, 12);
        HangsAtLowWater y = tie("99", 38);
        tended(y, "any line", 0, 0);
        waked(y, "any line", 12, 12, 12, 12);
    }

    /** Good are 18 .. 20 where TIDE is 20, 20 .. 21 where it is 18, 21 .. 22 where it is 17, by 9 feet. */
    private static void asLongAsCanBe() {
        tended(tie("09", 20, 20, 20, 18, 18, 18), "one LENGTH for both", 0, 0);
        tended(tie("09", 20, 20, 20, 18, 18, 17, 17, 17, 18, 17, 17, 17), "no LENGTH for all", 1, 1 << 5);
        tended(tie("09", 17, 18, 20, 20, 20, 20, 20, 20, 20, 20, 20, 20), "just not from the second on", 1, 1 << 2);
        tended(tie("09", 17, 18, 18, 18, 18, 18, 18, 18, 18, 18, 18, 20), "just not at the last", 1, 1 << 11);
    }

    /** Where a change could come at two HOURS alike, it comes at the later one. */
    private static void eachAsLateAsCanBe() {
        tended(tie("09", 20, 18, 18, 18, 17, 17, 18, 20, 18, 18, 18, 17), "as late as can be", 3,
                1 << 4 | 1 << 7 | 1 << 11);
    }

    /** Each 5 HOURS the last line is held for two HOURS alone. */
    private static void toTheLastHour() {
        HangsAtLowWater x = tie("00", 38, 38, 38, 38, 38, 38, 38, 38, 38, 38, 20, 20);
        watched(x, "the last two", 5, 1, 1, -9, -9, 1, -9);
        x.rises(10, 38);
        watched(x, "the last one", 1, 1, -9, -9, -9, -9, -9);
        x.rises(11, 38);
        x.rises(0, 20);
        watched(x, "the first one", 1, 1, -9, -9, -9, -9, -9);
        x.rises(1, 20);
        watched(x, "the first two", 2, 1, 1, -9, -9, -9, -9);
    }

    /** The line becomes the least each time: as long as ahead is no change, and the first is none. */
    private static void anotherThanAhead() {
        watched(tie("30", 38, 20, 20, 20, 20, 20, 20, 20, 20, 20, 20, 20), "the least each", 6, 1, 0, 0, 0, 0, 0);
        watched(tie("30", 20, 38, 38, 38, 38, 38, 20, 20, 20, 20, 20, 20), "down and up", 6, 2, 2, 2, 0, 0, 0);
        HangsAtLowWater x = tie("30", 20);
        x.pay(0, 99);
        watched(x, "whatever it was", 6, 0, 0, 0, 0, 0, 0);
    }

    /** Five turns of the tide: a waking is worth as much as the HOURS that it saves. */
    private static void wakings() {
        waked(tie("00", 38, 20, 20, 20, 20, 20, 20, 20, 20, 20, 20, 20), "from HOUR 1 on", 11, 12, 12, 12);
        waked(tie("00", 38, 38, 38, 38, 38, 38, 38, 38, 38, 38, 38, 20), "at HOUR 11", 11, 12, 12, 12);
        waked(tie("00", 38, 37, 36, 35, 34, 33, 32, 31, 30, 29, 28, 27), "each HOUR another", 1, 2, 3, 4);
        waked(tie("00", 38, 38, 38, 20, 38, 38, 20, 20, 38, 20, 20, 20), "some", 6, 10, 10, 11);
        waked(tie("00", 38, 38, 38, 20, 20, 20, 37, 37, 37, 36, 36, 36), "four alike", 3, 6, 9, 12);
    }
}
