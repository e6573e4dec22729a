import java.util.ArrayList;
import java.util.List;
import java.util.function.ToIntBiFunction;

/** Told runs of calls, drawn by seeds, on the class and on the plain model: both answer alike. */
public final class AgainstPlainModelTest {
    private static final int RUNS = 600;
    private static final int CALLS = 200;

    /** The letters of a call's arguments: see argument(). */
    private record Call(String name, String arguments, int weight,
            ToIntBiFunction<HangsAtLowWater, int[]> real, ToIntBiFunction<PlainModel, int[]> plain) {
    }

    private static final List<Call> CALLS_KNOWN = new ArrayList<>();
    private static int seed = 1;
    private static int wrong = 0;

    private static int draw(int below) {
        seed = seed * 1103515245 + 12345;
        return (seed >>> 8) % below;
    }

    private static void know(String name, String arguments, int weight,
            ToIntBiFunction<HangsAtLowWater, int[]> real, ToIntBiFunction<PlainModel, int[]> plain) {
        CALLS_KNOWN.add(new Call(name, arguments, weight, real, plain));
    }

    private static void knowAll() {
        know("feed", "f", 2, (x, a) -> x.feed(a[0]), (m, a) -> m.feed(a[0]));
        know("quay", "", 2, (x, a) -> x.quay(), (m, a) -> m.quay());
        know("tide", "h", 2, (x, a) -> x.tide(a[0]), (m, a) -> m.tide(a[0]));
        know("wind", "h", 2, (x, a) -> x.wind(a[0]), (m, a) -> m.wind(a[0]));
        know("rises", "ht", 6, (x, a) -> x.rises(a[0], a[1]), (m, a) -> m.rises(a[0], a[1]));
        know("ring", "rw", 2, (x, a) -> x.ring(a[0], a[1]), (m, a) -> m.ring(a[0], a[1]));
        know("boat", "bw", 3, (x, a) -> x.boat(a[0], a[1]), (m, a) -> m.boat(a[0], a[1]));
        know("pay", "bl", 6, (x, a) -> x.pay(a[0], a[1]), (m, a) -> m.pay(a[0], a[1]));
        know("tie", "br", 2, (x, a) -> x.tie(a[0], a[1]), (m, a) -> m.tie(a[0], a[1]));
        know("set", "we", 2, (x, a) -> x.set(a[0], a[1]), (m, a) -> m.set(a[0], a[1]));
        know("hour", "", 3, (x, a) -> x.hour(), (m, a) -> m.hour());
        know("needs", "bh", 2, (x, a) -> x.needs(a[0], a[1]), (m, a) -> m.needs(a[0], a[1]));
        know("out", "bh", 3, (x, a) -> x.out(a[0], a[1]), (m, a) -> m.out(a[0], a[1]));
        know("lies", "bhw", 4, (x, a) -> x.lies(a[0], a[1], a[2]), (m, a) -> m.lies(a[0], a[1], a[2]));
        know("hours", "bw", 4, (x, a) -> x.hours(a[0], a[1]), (m, a) -> m.hours(a[0], a[1]));
        know("length", "bw", 3, (x, a) -> x.length(a[0], a[1]), (m, a) -> m.length(a[0], a[1]));
        know("tended", "bw", 1, (x, a) -> x.tended(a[0], a[1]), (m, a) -> m.tended(a[0], a[1]));
        know("touch", "bb", 3, (x, a) -> x.touch(a[0], a[1]), (m, a) -> m.touch(a[0], a[1]));
        know("clear", "bb", 1, (x, a) -> x.clear(a[0], a[1]), (m, a) -> m.clear(a[0], a[1]));
        know("slack", "b", 2, (x, a) -> x.slack(a[0]), (m, a) -> m.slack(a[0]));
        know("alongside", "w", 3, (x, a) -> x.alongside(a[0]), (m, a) -> m.alongside(a[0]));
        know("mud", "th", 2, (x, a) -> x.mud(a[0], a[1]), (m, a) -> m.mud(a[0], a[1]));
        know("carry", "thh", 2, (x, a) -> x.carry(a[0], a[1], a[2]), (m, a) -> m.carry(a[0], a[1], a[2]));
        know("berths", "w", 1, (x, a) -> x.berths(a[0]), (m, a) -> m.berths(a[0]));
        know("saves", "bw", 2, (x, a) -> x.saves(a[0], a[1]), (m, a) -> m.saves(a[0], a[1]));
        know("marks", "bmw", 2, (x, a) -> x.marks(a[0], a[1], a[2]), (m, a) -> m.marks(a[0], a[1], a[2]));
        know("whose", "m", 2, (x, a) -> x.whose(a[0]), (m, a) -> m.whose(a[0]));
        know("row", "n", 4, (x, a) -> x.row(a[0]), (m, a) -> m.row(a[0]));
        know("judge", "b", 1, (x, a) -> x.judge(a[0]), (m, a) -> m.judge(a[0]));
        know("drop", "", 1, (x, a) -> x.drop(), (m, a) -> m.drop());
        know("seeds", "bszw", 2, (x, a) -> x.seeds(a[0], a[1], a[2], a[3]),
                (m, a) -> m.seeds(a[0], a[1], a[2], a[3]));
        know("back", "", 3, (x, a) -> x.back(), (m, a) -> m.back());
        know("spring", "i", 2, (x, a) -> x.spring(a[0]), (m, a) -> m.spring(a[0]));
        know("swells", "hd", 2, (x, a) -> x.swells(a[0], a[1]), (m, a) -> m.swells(a[0], a[1]));
        know("fortnight", "bw", 2, (x, a) -> x.fortnight(a[0], a[1]), (m, a) -> m.fortnight(a[0], a[1]));
        know("watch", "bk", 2, (x, a) -> x.watch(a[0], a[1]), (m, a) -> m.watch(a[0], a[1]));
        know("seldom", "b", 2, (x, a) -> x.seldom(a[0]), (m, a) -> m.seldom(a[0]));
        know("wake", "bq", 1, (x, a) -> x.wake(a[0], a[1]), (m, a) -> m.wake(a[0], a[1]));
        know("ramp", "el", 1, (x, a) -> x.ramp(a[0], a[1]), (m, a) -> m.ramp(a[0], a[1]));
        know("slope", "qh", 2, (x, a) -> x.slope(a[0], a[1]), (m, a) -> m.slope(a[0], a[1]));
        know("open", "qo", 2, (x, a) -> x.open(a[0], a[1]), (m, a) -> m.open(a[0], a[1]));
        know("bridge", "eoh", 2, (x, a) -> x.bridge(a[0], a[1], a[2]), (m, a) -> m.bridge(a[0], a[1], a[2]));
        know("passes", "tih", 2, (x, a) -> x.passes(a[0], a[1], a[2]), (m, a) -> m.passes(a[0], a[1], a[2]));
        know("waited", "ti", 2, (x, a) -> x.waited(a[0], a[1]), (m, a) -> m.waited(a[0], a[1]));
        know("cheapest", "w", 1, (x, a) -> x.cheapest(a[0]), (m, a) -> m.cheapest(a[0]));
        know("crossed", "h", 2, (x, a) -> x.crossed(a[0]), (m, a) -> m.crossed(a[0]));
        know("hung", "bmw", 1, (x, a) -> x.hung(a[0], a[1], a[2]), (m, a) -> m.hung(a[0], a[1], a[2]));
        know("skippers", "bbw", 1, (x, a) -> x.skippers(a[0], a[1], a[2]),
                (m, a) -> m.skippers(a[0], a[1], a[2]));
        know("image", "", 1, (x, a) -> x.image(), (m, a) -> m.image());
        know("restore", "", 1, (x, a) -> x.restore(), (m, a) -> m.restore());
        know("count", "c", 6, (x, a) -> x.count(a[0]), (m, a) -> m.count(a[0]));
    }

    /** Mostly a number in its range, now and then one just or far outside. */
    private static int inside(int least, int greatest) {
        int luck = draw(40);
        if (luck == 0) return least - 1;
        if (luck == 1) return greatest + 1;
        if (luck == 2) return draw(2) == 0 ? Integer.MIN_VALUE : Integer.MAX_VALUE;
        if (luck == 3) return least;
        if (luck == 4) return greatest;
        return least + draw(greatest - least + 1);
    }

    private static int argument(char sort, PlainModel m) {
        switch (sort) {
            case 'b': return inside(0, Math.max(0, m.count(0) - 1));
            case 'r': return inside(0, Math.max(0, m.count(1) - 1));
            case 'h': return inside(0, 11);
            case 't': return inside(0, 40);
            case 'l': return draw(3) == 0 ? inside(0, 99) : inside(15, 60);
            case 'e': return inside(0, 60);
            case 'w': return inside(0, draw(2) == 0 ? 2 : 6);
            case 'n': return draw(4) == 0 ? inside(0, 99) : inside(0, 12);
            case 'f': return draw(4) == 0 ? inside(0, 255) : "twrble0123;+-".charAt(draw(13));
            case 's': return inside(1, 20);
            case 'z': return draw(1 << 24) * 331;
            case 'i': return inside(0, 9);
            case 'd': return inside(0, 13);
            case 'k': return inside(1, 6);
            case 'q': return inside(0, 3);
            case 'o': return draw(2) == 0 ? inside(0, 999) : inside(0, 150);
            case 'm': return marks(m);
            default: return inside(0, 18);
        }
    }

    /** HOURS that a boat may have hung at, so that not all marks fit none. */
    private static int marks(PlainModel m) {
        if (m.count(0) == 0 || draw(4) == 0) return inside(0, 4095);
        return m.hours(draw(m.count(0)), 0);
    }

    private static String statement(PlainModel m) {
        int rings = Math.max(1, m.count(1));
        switch (draw(8)) {
            case 0:
            case 1: return "t" + Check.two(draw(12)) + Check.two(draw(draw(9) == 0 ? 43 : 41)) + ";";
            case 2: return "w" + Check.two(draw(12)) + "+-".charAt(draw(2)) + draw(10) + ";";
            case 3: return "r" + Check.two(draw(100)) + Check.two(draw(draw(9) == 0 ? 64 : 61)) + ";";
            case 4: return boat(rings);
            case 5: return "l" + draw(5) + Check.two(draw(100)) + ";";
            case 6: return "e" + Check.two(draw(62)) + ";";
            default: return "w" + Check.two(draw(13)) + "+" + draw(10) + ";";
        }
    }

    private static String boat(int rings) {
        return "b" + draw(6) + draw(10) + draw(rings) + draw(rings) + Check.two(15 + draw(60))
                + Check.two(1 + draw(20)) + Check.two(draw(2) == 0 ? draw(100) : 10 + draw(30)) + ";";
    }

    private static int tell(HangsAtLowWater x, PlainModel m, String text, String run) {
        for (int i = 0; i < text.length(); i++) {
            due(run + " feed", x.feed(text.charAt(i)), m.feed(text.charAt(i)));
        }
        due(run + " quay of " + text, x.quay(), m.quay());
        return text.length() + 1;
    }

    private static void due(String call, int got, int want) {
        if (got == want) return;
        wrong++;
        if (wrong < 40) System.out.println(call + " answered " + got + ", the plain model " + want);
    }

    /** Tells rings, then boats, then some tides; answers how many calls that took. */
    private static int setUp(HangsAtLowWater x, PlainModel m, String run) {
        StringBuilder text = new StringBuilder();
        int rings = 1 + draw(6);
        for (int i = 0; i < rings; i++) {
            text.append("r").append(Check.two(draw(100))).append(Check.two(draw(61))).append(";");
        }
        int calls = tell(x, m, text.toString(), run);
        text.setLength(0);
        int boats = 1 + draw(5);
        for (int i = 0; i < boats; i++) text.append(boat(rings));
        calls += tell(x, m, text.toString(), run);
        int around = 10 + draw(25);
        for (int hour = 0; hour < 12; hour++) {
            int tide = Math.min(40, Math.max(0, around + draw(2 + draw(20)) - 5));
            due(run + " rises", x.rises(hour, tide), m.rises(hour, tide));
        }
        return calls + 12;
    }

    private static void someStatements(HangsAtLowWater x, PlainModel m, String run) {
        String text = statement(m);
        for (int i = draw(3); i > 0; i--) text += statement(m);
        if (draw(6) == 0) text = text.substring(0, draw(text.length() + 1));
        if (draw(9) == 0) text += (char) ('0' + draw(70));
        if (m.count(7) == 0) tell(x, m, text, run);
    }

    private static void randomCall(HangsAtLowWater x, PlainModel m, String run) {
        int weights = 0;
        for (Call c : CALLS_KNOWN) weights += c.weight;
        int at = draw(weights);
        for (Call c : CALLS_KNOWN) {
            at -= c.weight;
            if (at >= 0) continue;
            int[] a = new int[c.arguments.length()];
            StringBuilder told = new StringBuilder(run).append(' ').append(c.name);
            for (int i = 0; i < a.length; i++) {
                a[i] = argument(c.arguments.charAt(i), m);
                told.append(' ').append(a[i]);
            }
            due(told.toString(), c.real.applyAsInt(x, a), c.plain.applyAsInt(m, a));
            return;
        }
    }

    public static void main(String[] arguments) {
        knowAll();
        for (int run = 0; run < RUNS; run++) {
            seed = run * 7919 + 13;
            HangsAtLowWater x = new HangsAtLowWater();
            PlainModel m = new PlainModel();
            if (run % 20 != 0) setUp(x, m, "run " + run);
            for (int call = 0; call < CALLS; call++) {
                if (call % 70 == 69) someStatements(x, m, "run " + run);
                fillRowForAlongside(x, m, run, call);
                randomCall(x, m, "run " + run + " call " + call);
            }
            for (int what = 0; what <= 18; what++) {
                due("run " + run + " count " + what, x.count(what), m.count(what));
            }
        }
        System.out.println(wrong == 0 ? "all answers are as due" : wrong + " answers are not as due");
        if (wrong != 0) System.exit(1);
    }

    /** A ROW that fits the boats is rare by luck alone. */
    private static void fillRowForAlongside(HangsAtLowWater x, PlainModel m, int run, int call) {
        if (call % 50 != 25 || m.count(0) == 0) return;
        due("run " + run + " drop", x.drop(), m.drop());
        for (int i = 0; i < m.count(0); i++) {
            int v = draw(13);
            due("run " + run + " row", x.row(v), m.row(v));
        }
        for (int what = 0; what < 3; what++) {
            due("run " + run + " alongside " + what, x.alongside(what), m.alongside(what));
        }
        if (draw(2) == 0 || m.count(0) == 0) return;
        due("run " + run + " drop", x.drop(), m.drop());
        for (int i = 0; i < 1 + draw(4); i++) {
            int v = m.out(0, (m.count(2) + i) % 12);
            due("run " + run + " row", x.row(v), m.row(v));
        }
        due("run " + run + " judge", x.judge(0), m.judge(0));
    }
}
