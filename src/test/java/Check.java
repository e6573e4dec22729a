import java.util.function.IntSupplier;

/** What the tests share: answers that are due, told quays, refusals that change nothing else. */
final class Check {
    private static final int[] REFUSAL_NUMBERS = {-1, -2, -3, -4, -5, -6};
    private static int wrong = 0;

    private Check() {
    }

    static void due(String call, int got, int want) {
        if (got != want) {
            wrong++;
            System.out.println(call + " answered " + got + ", due is " + want);
        }
    }

    static void finish() {
        System.out.println(wrong == 0 ? "all answers are as due" : wrong + " answers are not as due");
        if (wrong != 0) {
            System.exit(1);
        }
    }

    static void feed(HangsAtLowWater x, String text) {
        for (int i = 0; i < text.length(); i++) {
            due("feed of " + text + " at " + i, x.feed(text.charAt(i)), i + 1);
        }
    }

    static int quay(HangsAtLowWater x, String text) {
        feed(x, text);
        return x.quay();
    }

    /** A new object that was told quays, each without a fault. */
    static HangsAtLowWater told(String... texts) {
        HangsAtLowWater x = new HangsAtLowWater();
        for (String text : texts) {
            int statements = text.replaceAll("[^;]", "").length();
            due("quay of " + text, quay(x, text), statements);
        }
        return x;
    }

    static void refused(HangsAtLowWater x, String call, int number, IntSupplier answer) {
        refusedAs(x, call, number, number, answer);
    }

    static void refusedFar(HangsAtLowWater x, String call, int number, IntSupplier answer) {
        refusedAs(x, call, number, 1000000000 - number, answer);
    }

    private static void refusedAs(HangsAtLowWater x, String call, int number, int want, IntSupplier answer) {
        int[] before = all(x);
        int[] countsBefore = refusals(x);
        due(call, answer.getAsInt(), want);
        int[] after = all(x);
        int[] countsAfter = refusals(x);
        for (int i = 0; i < before.length; i++) {
            due(call + ": of all that there is, number " + i, after[i], before[i]);
        }
        for (int i = 0; i < countsBefore.length; i++) {
            int more = REFUSAL_NUMBERS[i] == number ? 1 : 0;
            due(call + ": refusals " + REFUSAL_NUMBERS[i], countsAfter[i], countsBefore[i] + more);
        }
    }

    static int[] refusals(HangsAtLowWater x) {
        int[] counts = new int[6];
        for (int i = 0; i < 6; i++) {
            counts[i] = x.count(11 + i);
        }
        return counts;
    }

    /** All that can be asked for without a refusal. */
    static int[] all(HangsAtLowWater x) {
        int[] rows = new int[12 + 24 + 12 + 35 + 36];
        int n = 0;
        for (int what = 0; what <= 10; what++) {
            rows[n++] = x.count(what);
        }
        rows[n++] = x.count(17);
        for (int hour = 0; hour < 12; hour++) {
            rows[n++] = x.tide(hour);
            rows[n++] = x.wind(hour);
        }
        for (int ring = 0; ring < x.count(1); ring++) {
            rows[n++] = x.ring(ring, 0);
            rows[n++] = x.ring(ring, 1);
        }
        for (int boat = 0; boat < x.count(0); boat++) {
            for (int what = 0; what < 7; what++) {
                rows[n++] = x.boat(boat, what);
            }
        }
        for (int ramp = 0; ramp < x.count(10); ramp++) {
            for (int hour = 0; hour < 12; hour++) {
                rows[n++] = x.slope(ramp, hour);
            }
        }
        return rows;
    }
}
