import java.util.function.Supplier;
import java.util.function.ToIntFunction;

/** What the tests share: answers that are due, told quays, refusals that change nothing else. */
final class Check {
    private static int wrong = 0;

    private Check() {
    }

    static void due(String call, int got, int want) {
        if (got != want) {
            wrong++;
            System.out.println(call + " answered " + got + ", due is " + want);
        }
    }

    static void finish() {
        System.out.println(wrong == 0 ? "all answers are as due" : wrong + " answers are not as due");
        if (wrong != 0) {
            System.exit(1);
        }
    }

    static void feed(HangsAtLowWater x, String text) {
        for (int i = 0; i < text.length(); i++) {
            due("feed of " + text + " at " + i, x.feed(text.charAt(i)), i + 1);
        }
    }

    /** A number as its two digits. */
    static String two(int v) {
        return "" + (char) ('0' + v / 10) + (char) ('0' + v % 10);
    }

    static int quay(HangsAtLowWater x, String text) {
        feed(x, text);
        return x.quay();
    }

    /** A new object that was told quays, each without a fault. */
    static HangsAtLowWater told(String... texts) {
        HangsAtLowWater x = new HangsAtLowWater();
        for (String text : texts) {
            int statements = text.replaceAll("[^;]", "").length();
            due("quay of " + text, quay(x, text), statements);
        }
        return x;
    }

    /** A call that is refused, on an object of its own: a life has 512 calls alone. */
    static void refused(Supplier<HangsAtLowWater> made, String call, int number,
            ToIntFunction<HangsAtLowWater> answer) {
        refusedAs(made.get(), call, number, number, answer);
    }

    /** The same of a call whose answers may be below 0. */
    static void refusedFar(Supplier<HangsAtLowWater> made, String call, int number,
            ToIntFunction<HangsAtLowWater> answer) {
        refusedAs(made.get(), call, number, 1000000000 - number, answer);
    }

    private static void refusedAs(HangsAtLowWater x, String call, int number, int want,
            ToIntFunction<HangsAtLowWater> answer) {
        int[] before = all(x);
        int[] countsBefore = refusals(x);
        due(call, answer.applyAsInt(x), want);
        int[] after = all(x);
        int[] countsAfter = refusals(x);
        for (int i = 0; i < before.length; i++) {
            due(call + ": of all that there is, number " + i, after[i], before[i]);
        }
        for (int i = 0; i < countsBefore.length; i++) {
            int more = i + 1 == -number ? 1 : 0;
            due(call + ": count of refusals -" + (i + 1), countsAfter[i], countsBefore[i] + more);
        }
    }

    static int[] refusals(HangsAtLowWater x) {
        int[] counts = new int[6];
        for (int i = 0; i < counts.length; i++) {
            counts[i] = x.count(11 + i);
        }
        return counts;
    }

    /** All that can be asked for without a refusal: less than a hundred calls. */
    static int[] all(HangsAtLowWater x) {
        int[] rows = new int[12 + 24 + 12 + 35 + 6];
        int n = 0;
        for (int what = 0; what <= 10; what++) {
            rows[n++] = x.count(what);
        }
        rows[n++] = x.count(17);
        for (int hour = 0; hour < 12; hour++) {
            rows[n++] = x.tide(hour);
            rows[n++] = x.wind(hour);
        }
        for (int ring = 0; ring < x.count(1); ring++) {
            rows[n++] = x.ring(ring, 0);
            rows[n++] = x.ring(ring, 1);
        }
        for (int boat = 0; boat < x.count(0); boat++) {
            for (int what = 0; what < 7; what++) {
                rows[n++] = x.boat(boat, what);
            }
        }
        for (int ramp = 0; ramp < x.count(10); ramp++) {
            rows[n++] = x.slope(ramp, 0);
            rows[n++] = x.open(ramp, 100);
        }
        return rows;
    }
}
