import java.util.ArrayList;
import java.util.Arrays;
import java.util.List;
import java.util.TreeSet;
import java.util.function.ToIntBiFunction;

/**
 * Every refusal, by a table of the grounds that the document tells for each call, in its order. All
 * arguments stand at their edges, just outside and far outside, each with each, so that two grounds
 * and more come in one call. Behind a refused call all is as in a twin that was spared it, but the
 * count of that refusal.
 */
public final class RefusalsTest {
    /** What a call finds: so that every number of something there may be is there, none and most too. */
    private record Scene(String name, int rings, int boats, int ramps, int[] row, String letters, int paid,
            boolean image) {

        HangsAtLowWater make() {
            HangsAtLowWater x = new HangsAtLowWater();
            if (rings > 0) {
                Check.quay(x, "r2040;".repeat(rings) + "b0000401020;".repeat(boats));
            }
            for (int i = 0; i < ramps; i++) {
                x.ramp(30, 10 + i);
            }
            if (image) {
                x.image();
            }
            for (int i = 0; i < paid; i++) {
                x.pay(0, 30 + i);
            }
            for (int v : row) {
                x.row(v);
            }
            for (char letter : letters.toCharArray()) {
                x.feed(letter);
            }
            return x;
        }
    }

    private static final List<Scene> SCENES = List.of(
            new Scene("new", 0, 0, 0, new int[0], "", 0, false),
            new Scene("rings alone", 1, 0, 1, new int[] {12}, "t", 0, true),
            new Scene("some", 2, 2, 1, new int[] {3, 4}, "t03", 1, true),
            new Scene("one stays", 2, 2, 2, new int[] {11, 12}, "", 0, false),
            new Scene("one above 12", 2, 2, 0, new int[] {13, 0}, "x", 8, false),
            new Scene("a number too many", 3, 1, 0, new int[] {0, 11}, "t0305", 1, true),
            new Scene("a letter less than full", 6, 4, 2, new int[11], "e".repeat(95), 7, true),
            new Scene("full", 6, 5, 3, new int[] {0, 1, 2, 3, 4, 5, 6, 7, 8, 9, 10, 11}, "e60;".repeat(24), 8, true));

    private interface Fits {
        boolean at(Scene s, int[] a);
    }

    private record Ground(int number, Fits fits) {
    }

    private interface Edges {
        int[] of(Scene s);
    }

    private record Call(String name, boolean isFar, Edges[] arguments, Ground[] grounds,
            ToIntBiFunction<HangsAtLowWater, int[]> made) {
    }

    private static final List<Call> CALLS = new ArrayList<>();

    private static int[] edges(int least, int greatest) {
        TreeSet<Integer> all = new TreeSet<>(Arrays.asList(Integer.MIN_VALUE, least - 1, least, greatest,
                greatest + 1, Integer.MAX_VALUE));
        return all.stream().mapToInt(Integer::intValue).toArray();
    }

    private static final Edges HOUR = s -> edges(0, 11);
    private static final Edges BOAT = s -> edges(0, Math.max(0, s.boats - 1));
    private static final Edges RING = s -> edges(0, Math.max(0, s.rings - 1));
    private static final Edges RAMP = s -> edges(0, Math.max(0, s.ramps - 1));
    private static final Edges BITS = from(0, 4095);
    private static final Edges TWO_WHATS = from(0, 1);
    private static final Edges THREE_WHATS = from(0, 2);

    private static Edges from(int least, int greatest) {
        return s -> edges(least, greatest);
    }

    private static boolean isIn(int v, int many) {
        return 0 <= v && v < many;
    }

    private static Ground noHour(int i) {
        return new Ground(-1, (s, a) -> !isIn(a[i], 12));
    }

    private static Ground noBoat(int i) {
        return new Ground(-1, (s, a) -> !isIn(a[i], s.boats));
    }

    private static Ground noRing(int i) {
        return new Ground(-1, (s, a) -> !isIn(a[i], s.rings));
    }

    private static Ground noRamp(int i) {
        return new Ground(-1, (s, a) -> !isIn(a[i], s.ramps));
    }

    private static Ground twice(int i, int j) {
        return new Ground(-1, (s, a) -> a[i] == a[j]);
    }

    private static Ground other(int i, int many) {
        return new Ground(-2, (s, a) -> !isIn(a[i], many));
    }

    private static Ground state(Fits fits) {
        return new Ground(-3, fits);
    }

    private static Ground below(int i, int least) {
        return new Ground(-4, (s, a) -> a[i] < least);
    }

    private static Ground above(int i, int greatest) {
        return new Ground(-6, (s, a) -> a[i] > greatest);
    }

    private static Ground noRoom(Fits fits) {
        return new Ground(-6, fits);
    }

    private static Edges[] args(Edges... all) {
        return all;
    }

    private static void know(String name, Edges[] arguments, ToIntBiFunction<HangsAtLowWater, int[]> made,
            Ground... grounds) {
        CALLS.add(new Call(name, false, arguments, grounds, made));
    }

    private static void knowFar(String name, Edges[] arguments, ToIntBiFunction<HangsAtLowWater, int[]> made,
            Ground... grounds) {
        CALLS.add(new Call(name, true, arguments, grounds, made));
    }

    private static void knowWhatThereIs() {
        know("feed", args(from(0, 255)), (x, a) -> x.feed(a[0]),
                below(0, 0), above(0, 255), noRoom((s, a) -> s.letters.length() >= 96));
        know("quay", args(), (x, a) -> x.quay());
        know("tide", args(HOUR), (x, a) -> x.tide(a[0]), noHour(0));
        knowFar("wind", args(HOUR), (x, a) -> x.wind(a[0]), noHour(0));
        know("rises", args(HOUR, from(0, 40)), (x, a) -> x.rises(a[0], a[1]), noHour(0), below(1, 0), above(1, 40));
        know("ring", args(RING, TWO_WHATS), (x, a) -> x.ring(a[0], a[1]), noRing(0), other(1, 2));
        know("boat", args(BOAT, from(0, 6)), (x, a) -> x.boat(a[0], a[1]), noBoat(0), other(1, 7));
        know("pay", args(BOAT, from(0, 99)), (x, a) -> x.pay(a[0], a[1]), noBoat(0), below(1, 0), above(1, 99));
        know("tie", args(BOAT, RING), (x, a) -> x.tie(a[0], a[1]), noBoat(0), noRing(1));
        know("set of EDGE", args(from(0, 60)), (x, a) -> x.set(0, a[0]), below(0, 0), above(0, 60));
        know("set of BOW", args(from(0, 9)), (x, a) -> x.set(1, a[0]), below(0, 0), above(0, 9));
        know("set of another", args(s -> new int[] {Integer.MIN_VALUE, -1, 2, Integer.MAX_VALUE}, from(0, 60)),
                (x, a) -> x.set(a[0], a[1]), other(0, 2));
        know("hour", args(), (x, a) -> x.hour());
        know("back", args(), (x, a) -> x.back(), state((s, a) -> s.paid == 0));
        know("spring", args(from(0, 9)), (x, a) -> x.spring(a[0]), below(0, 0), above(0, 9));
        know("ramp", args(from(0, 60), from(1, 40)), (x, a) -> x.ramp(a[0], a[1]),
                below(0, 0), below(1, 1), above(0, 60), above(1, 40), noRoom((s, a) -> s.ramps >= 3));
        know("row", args(from(0, 99)), (x, a) -> x.row(a[0]),
                below(0, 0), above(0, 99), noRoom((s, a) -> s.row.length >= 12));
        know("drop", args(), (x, a) -> x.drop());
        know("image", args(), (x, a) -> x.image());
        know("restore", args(), (x, a) -> x.restore(), state((s, a) -> !s.image));
        know("count", args(from(0, 17)), (x, a) -> x.count(a[0]));
    }

    private static void knowLines() {
        know("needs", args(BOAT, HOUR), (x, a) -> x.needs(a[0], a[1]), noBoat(0), noHour(1));
        know("out", args(BOAT, HOUR), (x, a) -> x.out(a[0], a[1]), noBoat(0), noHour(1));
        knowFar("lies", args(BOAT, HOUR, THREE_WHATS), (x, a) -> x.lies(a[0], a[1], a[2]),
                noBoat(0), noHour(1), other(2, 3));
        know("hours", args(BOAT, from(0, 3)), (x, a) -> x.hours(a[0], a[1]), noBoat(0), other(1, 4));
        know("length", args(BOAT, THREE_WHATS), (x, a) -> x.length(a[0], a[1]), noBoat(0), other(1, 3));
        know("tended", args(BOAT, TWO_WHATS), (x, a) -> x.tended(a[0], a[1]), noBoat(0), other(1, 2));
        know("touch", args(BOAT, BOAT), (x, a) -> x.touch(a[0], a[1]), noBoat(0), noBoat(1), twice(0, 1));
        know("clear", args(BOAT, BOAT), (x, a) -> x.clear(a[0], a[1]), noBoat(0), noBoat(1), twice(0, 1));
        knowFar("slack", args(BOAT), (x, a) -> x.slack(a[0]), noBoat(0));
        knowFar("saves", args(BOAT, from(0, 5)), (x, a) -> x.saves(a[0], a[1]), noBoat(0), other(1, 6));
        know("marks", args(BOAT, BITS, TWO_WHATS), (x, a) -> x.marks(a[0], a[1], a[2]),
                noBoat(0), below(1, 0), above(1, 4095), other(2, 2));
        know("whose", args(BITS), (x, a) -> x.whose(a[0]), below(0, 0), above(0, 4095));
        know("hung", args(BOAT, BITS, TWO_WHATS), (x, a) -> x.hung(a[0], a[1], a[2]),
                noBoat(0), below(1, 0), above(1, 4095), other(2, 2));
        know("judge", args(BOAT), (x, a) -> x.judge(a[0]), noBoat(0));
        know("seeds", args(BOAT, from(1, 20), s -> new int[] {Integer.MIN_VALUE, 0, Integer.MAX_VALUE}, TWO_WHATS),
                (x, a) -> x.seeds(a[0], a[1], a[2], a[3]), noBoat(0), below(1, 1), above(1, 20), other(3, 2));
        know("fortnight", args(BOAT, THREE_WHATS), (x, a) -> x.fortnight(a[0], a[1]), noBoat(0), other(1, 3));
        know("watch", args(BOAT, from(1, 6)), (x, a) -> x.watch(a[0], a[1]), noBoat(0), below(1, 1), above(1, 6));
        know("seldom", args(BOAT), (x, a) -> x.seldom(a[0]), noBoat(0));
        know("wake", args(BOAT, from(0, 3)), (x, a) -> x.wake(a[0], a[1]), noBoat(0), below(1, 0), above(1, 3));
        know("skippers", args(BOAT, BOAT, TWO_WHATS), (x, a) -> x.skippers(a[0], a[1], a[2]),
                noBoat(0), noBoat(1), twice(0, 1), other(2, 2));
    }

    private static void knowTheQuay() {
        know("alongside", args(THREE_WHATS), (x, a) -> x.alongside(a[0]), other(0, 3),
                state((s, a) -> s.boats == 0 || s.row.length != s.boats || anyAbove(12, s.row)));
        know("mud", args(from(0, 40), HOUR), (x, a) -> x.mud(a[0], a[1]), below(0, 0), above(0, 40), noHour(1));
        know("carry", args(from(0, 40), HOUR, HOUR), (x, a) -> x.carry(a[0], a[1], a[2]),
                below(0, 0), above(0, 40), noHour(1), noHour(2), twice(1, 2));
        know("berths", args(TWO_WHATS), (x, a) -> x.berths(a[0]), other(0, 2), state((s, a) -> s.boats == 0));
        know("cheapest", args(TWO_WHATS), (x, a) -> x.cheapest(a[0]), other(0, 2), state((s, a) -> s.boats == 0));
        know("swells", args(HOUR, from(0, 13)), (x, a) -> x.swells(a[0], a[1]),
                noHour(0), below(1, 0), above(1, 13));
        know("slope", args(RAMP, HOUR), (x, a) -> x.slope(a[0], a[1]), noRamp(0), noHour(1));
        know("open", args(RAMP, from(0, 999)), (x, a) -> x.open(a[0], a[1]), noRamp(0), below(1, 0), above(1, 999));
        know("bridge", args(from(0, 60), from(0, 999), from(0, 12)), (x, a) -> x.bridge(a[0], a[1], a[2]),
                below(0, 0), below(1, 0), below(2, 0), above(0, 60), above(1, 999), above(2, 12));
        know("passes", args(from(0, 40), from(0, 9), HOUR), (x, a) -> x.passes(a[0], a[1], a[2]),
                below(0, 0), below(1, 0), above(0, 40), above(1, 9), noHour(2));
        know("waited", args(from(0, 40), from(0, 9)), (x, a) -> x.waited(a[0], a[1]),
                below(0, 0), below(1, 0), above(0, 40), above(1, 9), state((s, a) -> anyAbove(11, s.row)));
        know("crossed", args(HOUR), (x, a) -> x.crossed(a[0]), noHour(0));
    }

    private static boolean anyAbove(int greatest, int[] row) {
        return Arrays.stream(row).anyMatch(v -> v > greatest);
    }

    /** All that an object tells of itself, and then what it does with what can't be asked for. */
    private static List<Integer> innards(HangsAtLowWater x, Scene s) {
        List<Integer> told = new ArrayList<>();
        tellAll(x, told);
        told.add(x.alongside(2));
        told.add(x.waited(0, 0));
        told.add(x.judge(0));
        for (int i = 0; i <= s.paid; i++) {
            told.add(x.back());
            told.add(x.boat(0, 4));
        }
        for (char letter : "05;".toCharArray()) {
            told.add(x.feed(letter));
        }
        told.add(x.quay());
        told.add(x.restore());
        tellAll(x, told);
        return told;
    }

    private static void tellAll(HangsAtLowWater x, List<Integer> told) {
        for (int v : Check.all(x)) {
            told.add(v);
        }
    }

    private static void checkCall(Call c, Scene s, int[] a, List<Integer> untouched) {
        String told = s.name + ": " + c.name + Arrays.toString(a);
        int due = 0;
        for (int i = c.grounds.length - 1; i >= 0; i--) {
            due = c.grounds[i].fits.at(s, a) ? c.grounds[i].number : due;
        }
        HangsAtLowWater x = s.make();
        int[] before = Check.refusals(x);
        int answer = c.made.applyAsInt(x, a);
        int[] after = Check.refusals(x);
        for (int i = 0; i < 6; i++) {
            Check.due(told + ": refusals -" + (i + 1), after[i], before[i] + (due == -1 - i ? 1 : 0));
        }
        if (due == 0) {
            boolean isAnswer = c.isFar ? Math.abs(answer) < 1000 : answer >= 0 || answer == -9 || c.name.equals("quay");
            Check.due(told + ": taken (answer " + answer + ")", isAnswer ? 1 : 0, 1);
            return;
        }
        Check.due(told, answer, c.isFar ? 1000000000 - due : due);
        Check.due(told + ": all is as it was", innards(x, s).equals(untouched) ? 1 : 0, 1);
    }

    private static void checkAll(Call c, Scene s, int[] a, int at, List<Integer> untouched) {
        if (at == a.length) {
            checkCall(c, s, a, untouched);
            return;
        }
        for (int v : c.arguments[at].of(s)) {
            a[at] = v;
            checkAll(c, s, a, at + 1, untouched);
        }
    }

    public static void main(String[] arguments) {
        knowWhatThereIs();
        knowLines();
        knowTheQuay();
        for (Scene s : SCENES) {
            List<Integer> untouched = innards(s.make(), s);
            for (Call c : CALLS) {
                checkAll(c, s, new int[c.arguments.length], 0, untouched);
            }
        }
        manyRefusals();
        Check.finish();
    }

    /** Refusals are counted each by its number, as often as they come; of -5 there is none. */
    private static void manyRefusals() {
        HangsAtLowWater x = new HangsAtLowWater();
        for (int i = 0; i < 60; i++) {
            x.tide(12);
            x.slack(0);
            x.alongside(3);
            x.back();
            x.feed(-1);
            x.spring(10);
        }
        int[] want = {120, 60, 60, 60, 0, 60};
        for (int i = 0; i < 6; i++) {
            Check.due("many refusals: count(" + (11 + i) + ")", x.count(11 + i), want[i]);
        }
    }
}
