import java.util.ArrayDeque;
import java.util.ArrayList;
import java.util.Deque;
import java.util.List;
import java.util.function.IntPredicate;

/**
 * The document once more, by trying all that there is: no bounds worked out, no short ways. It is
 * what AgainstPlainModelTest holds the class against.
 */
final class PlainModel {
    static final class Boat {
        int kind, figure, ring, other, length, wide, far;

        Boat copy() {
            Boat b = new Boat();
            b.kind = kind;
            b.figure = figure;
            b.ring = ring;
            b.other = other;
            b.length = length;
            b.wide = wide;
            b.far = far;
            return b;
        }
    }

    static final class State {
        int[] tide = new int[12];
        int[] wind = new int[12];
        List<int[]> rings = new ArrayList<>();
        List<Boat> boats = new ArrayList<>();
        List<int[]> ramps = new ArrayList<>();
        int edge = 60, bow = 2, hour = 0, spring = 0;

        State copy() {
            State s = new State();
            s.tide = tide.clone();
            s.wind = wind.clone();
            for (int[] r : rings) {
                s.rings.add(r.clone());
            }
            for (Boat b : boats) {
                s.boats.add(b.copy());
            }
            for (int[] r : ramps) {
                s.ramps.add(r.clone());
            }
            s.edge = edge;
            s.bow = bow;
            s.hour = hour;
            s.spring = spring;
            return s;
        }
    }

    private State s = new State();
    private State taken = null;
    private final StringBuilder letters = new StringBuilder();
    private final List<Integer> row = new ArrayList<>();
    private final Deque<int[]> paid = new ArrayDeque<>();
    private final int[] refusals = new int[7];

    PlainModel() {
        java.util.Arrays.fill(s.tide, 20);
    }

    private int no(int number) {
        refusals[-number]++;
        return number;
    }

    private int far(int number) {
        return 1000000000 - no(number);
    }

    private boolean isHour(int h) {
        return 0 <= h && h <= 11;
    }

    private boolean isBoat(int b) {
        return 0 <= b && b < s.boats.size();
    }

    private boolean isRing(int r) {
        return 0 <= r && r < s.rings.size();
    }

    int feed(int letter) {
        if (letter < 0) return no(-4);
        if (letter > 255 || letters.length() == 96) return no(-6);
        letters.append((char) letter);
        return letters.length();
    }

    int quay() {
        String text = letters.toString();
        letters.setLength(0);
        // The longest beginning of the text that is one of a QUAY.
        String digit = "[0-9]";
        String[] forms = {
            "t" + digit + digit + digit + digit + ";", "r" + digit + digit + digit + digit + ";",
            "w" + digit + digit + "[+-]" + digit + ";", "b" + digit.repeat(10) + ";",
            "l" + digit.repeat(3) + ";", "e" + digit.repeat(2) + ";"};
        List<Integer> starts = new ArrayList<>();
        int at = 0;
        while (at < text.length() || at == 0) {
            int fit = -1;
            int longest = 0;
            for (String form : forms) {
                String[] parts = form.replace("[0-9]", "d").replace("[+-]", "s").split("");
                int i = 0;
                while (i < parts.length && at + i < text.length() && fits(parts[i], text.charAt(at + i))) i++;
                longest = Math.max(longest, i);
                if (i == parts.length) fit = i;
            }
            if (fit < 0) return -1000 - (at + longest);
            starts.add(at);
            at += fit;
        }
        State trial = s.copy();
        for (int start : starts) {
            if (!told(trial, text.substring(start, text.indexOf(';', start)))) return -2000 - start;
        }
        s = trial;
        paid.clear();
        return starts.size();
    }

    private static boolean fits(String part, char c) {
        if (part.equals("d")) return c >= '0' && c <= '9';
        if (part.equals("s")) return c == '+' || c == '-';
        return part.charAt(0) == c;
    }

    private static boolean told(State t, String st) {
        String r = st.substring(1);
        switch (st.charAt(0)) {
            case 't': {
                int h = Integer.parseInt(r.substring(0, 2)), v = Integer.parseInt(r.substring(2));
                if (h > 11 || v > 40) return false;
                t.tide[h] = v;
                return true;
            }
            case 'w': {
                int h = Integer.parseInt(r.substring(0, 2));
                if (h > 11) return false;
                t.wind[h] = Integer.parseInt(r.substring(2));
                return true;
            }
            case 'r': {
                int p = Integer.parseInt(r.substring(0, 2)), h = Integer.parseInt(r.substring(2));
                if (h > 60 || t.rings.size() == 6) return false;
                t.rings.add(new int[] {p, h});
                return true;
            }
            case 'b': {
                Boat b = new Boat();
                b.kind = r.charAt(0) - '0';
                b.figure = r.charAt(1) - '0';
                b.ring = r.charAt(2) - '0';
                b.other = r.charAt(3) - '0';
                b.length = Integer.parseInt(r.substring(4, 6));
                b.wide = Integer.parseInt(r.substring(6, 8));
                b.far = Integer.parseInt(r.substring(8));
                int rings = t.rings.size();
                if (b.kind > 5 || b.ring >= rings || b.other >= rings || b.wide < 1 || b.wide > 20
                        || t.boats.size() == 5) return false;
                t.boats.add(b);
                return true;
            }
            case 'l': {
                int b = r.charAt(0) - '0';
                if (b >= t.boats.size()) return false;
                t.boats.get(b).length = Integer.parseInt(r.substring(1));
                return true;
            }
            default: {
                int e = Integer.parseInt(r);
                if (e > 60) return false;
                t.edge = e;
                return true;
            }
        }
    }

    int tide(int h) {
        return isHour(h) ? s.tide[h] : no(-1);
    }

    int wind(int h) {
        return isHour(h) ? s.wind[h] : far(-1);
    }

    int rises(int h, int v) {
        if (!isHour(h)) return no(-1);
        if (v < 0) return no(-4);
        if (v > 40) return no(-6);
        int was = s.tide[h];
        s.tide[h] = v;
        return was;
    }

    int ring(int r, int what) {
        if (!isRing(r)) return no(-1);
        if (what != 0 && what != 1) return no(-2);
        return s.rings.get(r)[what];
    }

    int boat(int n, int what) {
        if (!isBoat(n)) return no(-1);
        Boat b = s.boats.get(n);
        switch (what) {
            case 0: return b.kind;
            case 1: return b.figure;
            case 2: return b.ring;
            case 3: return b.other;
            case 4: return b.length;
            case 5: return b.wide;
            case 6: return b.far;
            default: return no(-2);
        }
    }

    int pay(int n, int v) {
        if (!isBoat(n)) return no(-1);
        if (v < 0) return no(-4);
        if (v > 99) return no(-6);
        Boat b = s.boats.get(n);
        int was = b.length;
        paid.addLast(new int[] {n, was});
        if (paid.size() > 8) paid.removeFirst();
        b.length = v;
        return was;
    }

    int tie(int n, int r) {
        if (!isBoat(n) || !isRing(r)) return no(-1);
        Boat b = s.boats.get(n);
        int was = b.ring;
        b.ring = r;
        paid.clear();
        return was;
    }

    int set(int what, int v) {
        if (what != 0 && what != 1) return no(-2);
        if (v < 0) return no(-4);
        if (what == 0 && v > 60 || what == 1 && v > 9) return no(-6);
        int was;
        if (what == 0) {
            was = s.edge;
            s.edge = v;
        } else {
            was = s.bow;
            s.bow = v;
        }
        return was;
    }

    int hour() {
        s.hour = s.hour == 11 ? 0 : s.hour + 1;
        return s.hour;
    }

    private int place(int ring) {
        return s.rings.get(ring)[0];
    }

    private int need(Boat b, int tide) {
        int drop = Math.abs(s.rings.get(b.ring)[1] - (tide + s.bow));
        int tie = drop * drop;
        int half = Math.abs(place(b.ring) - place(b.other)) / 2;
        int two = tie + half * half;
        switch (b.kind) {
            case 1: return two;
            case 3: return tide + s.bow <= s.rings.get(b.ring)[1] ? 0 : tie;
            case 4: return two + b.figure * b.figure;
            case 5: return tide <= b.figure ? 0 : tie;
            default: return tie;
        }
    }

    private boolean hangs(Boat b, int tide) {
        return b.length * b.length < need(b, tide);
    }

    private int outOf(Boat b, int tide) {
        if (hangs(b, tide)) return 0;
        int root = 0;
        while ((root + 1) * (root + 1) <= b.length * b.length - need(b, tide)) root++;
        switch (b.kind) {
            case 1:
            case 4: return root / 2;
            case 2: return root * 3 / 4;
            case 3: return Math.min(root, b.figure);
            case 5: return tide <= b.figure ? 0 : root * 3 / 4;
            default: return root;
        }
    }

    private int middle(Boat b) {
        return b.kind == 1 || b.kind == 4 ? (place(b.ring) + place(b.other)) / 2 : place(b.ring);
    }

    private int blown(Boat b, int h) {
        int out = outOf(b, s.tide[h]);
        int wind = s.wind[h];
        if (wind > out) wind = out;
        if (wind < -out) wind = -out;
        return middle(b) + wind;
    }

    private int bits(IntPredicate at) {
        int bits = 0;
        for (int h = 0; h < 12; h++) {
            if (at.test(h)) bits += 1 << h;
        }
        return bits;
    }

    private int hanging(Boat b) {
        return bits(h -> hangs(b, s.tide[h]));
    }

    private boolean good(Boat b, int length, int h) {
        Boat c = b.copy();
        c.length = length;
        return !hangs(c, s.tide[h]) && outOf(c, s.tide[h]) <= c.far;
    }

    private boolean well(Boat b, int h) {
        return good(b, b.length, h) && s.tide[h] + s.bow <= s.edge;
    }

    private int least(Boat b) {
        for (int l = 0; l <= 99; l++) {
            Boat c = b.copy();
            c.length = l;
            if (hanging(c) == 0) return l;
        }
        return -9;
    }

    int needs(int n, int h) {
        if (!isBoat(n) || !isHour(h)) return no(-1);
        return need(s.boats.get(n), s.tide[h]);
    }

    int out(int n, int h) {
        if (!isBoat(n) || !isHour(h)) return no(-1);
        return outOf(s.boats.get(n), s.tide[h]);
    }

    int lies(int n, int h, int what) {
        if (!isBoat(n) || !isHour(h)) return far(-1);
        Boat b = s.boats.get(n);
        int out = outOf(b, s.tide[h]);
        if (what == 0) return middle(b) - out;
        if (what == 1) return middle(b) + out + b.wide;
        if (what == 2) return blown(b, h);
        return far(-2);
    }

    int hours(int n, int what) {
        if (!isBoat(n)) return no(-1);
        Boat b = s.boats.get(n);
        if (what == 0) return hanging(b);
        if (what == 1) return bits(h -> outOf(b, s.tide[h]) > b.far);
        if (what == 2) return bits(h -> s.tide[h] + s.bow > s.edge);
        if (what == 3) return bits(h -> well(b, h));
        return no(-2);
    }

    int length(int n, int what) {
        if (!isBoat(n)) return no(-1);
        if (what < 0 || what > 2) return no(-2);
        Boat b = s.boats.get(n);
        if (what == 0) return least(b);
        int greatest = -9;
        int both = 0;
        for (int l = 0; l <= 99; l++) {
            Boat c = b.copy();
            c.length = l;
            if (bits(h -> outOf(c, s.tide[h]) > c.far) == 0) greatest = l;
            if (bits(h -> well(c, h)) == 4095) both++;
        }
        return what == 1 ? greatest : both;
    }

    int tended(int n, int what) {
        if (!isBoat(n)) return no(-1);
        if (what != 0 && what != 1) return no(-2);
        Boat b = s.boats.get(n);
        boolean[][] good = goodLengths(b);
        // The fewest changes by all sets of HOURS; of these each as late as can be.
        int best = -9;
        for (int when = 0; when < 4096; when += 2) {
            if (best != -9 && Integer.bitCount(when) > Integer.bitCount(best) || !canTend(good, when)) continue;
            if (best == -9 || Integer.bitCount(when) < Integer.bitCount(best) || isLater(when, best)) best = when;
        }
        return best == -9 ? -9 : what == 0 ? Integer.bitCount(best) : best;
    }

    /** The first change that differs is the later one. */
    private static boolean isLater(int one, int other) {
        int differs = one ^ other;
        return differs != 0 && (other & Integer.lowestOneBit(differs)) != 0;
    }

    private boolean[][] goodLengths(Boat b) {
        boolean[][] good = new boolean[12][100];
        for (int h = 0; h < 12; h++) {
            for (int l = 0; l < 100; l++) good[h][l] = good(b, l, h);
        }
        return good;
    }

    private static boolean canTend(boolean[][] good, int when) {
        boolean[] can = new boolean[100];
        java.util.Arrays.fill(can, true);
        for (int h = 0; h < 12; h++) {
            if ((when >> h & 1) == 1) java.util.Arrays.fill(can, true);
            boolean any = false;
            for (int l = 0; l <= 99; l++) {
                can[l] = can[l] && good[h][l];
                any |= can[l];
            }
            if (!any) return false;
        }
        return true;
    }

    private int touching(Boat a, Boat b) {
        return bits(h -> {
            int t = s.tide[h];
            if (hangs(a, t) || hangs(b, t)) return false;
            int from = middle(b) - outOf(b, t);
            int to = middle(b) + outOf(b, t) + b.wide;
            int end = middle(a) + outOf(a, t) + a.wide;
            for (int foot = middle(a) - outOf(a, t); foot <= end; foot++) {
                if (from <= foot && foot <= to) return true;
            }
            return false;
        });
    }

    int touch(int one, int other) {
        if (!isBoat(one) || !isBoat(other) || one == other) return no(-1);
        return touching(s.boats.get(one), s.boats.get(other));
    }

    int clear(int one, int other) {
        if (!isBoat(one) || !isBoat(other) || one == other) return no(-1);
        Boat a = s.boats.get(one).copy();
        int least = least(a);
        if (least == -9) return -9;
        int best = -9;
        int fewest = 99;
        for (int l = least; l <= 99; l++) {
            a.length = l;
            int touches = Integer.bitCount(touching(a, s.boats.get(other)));
            if (touches < fewest) {
                fewest = touches;
                best = l;
            }
        }
        return best;
    }

    int slack(int n) {
        if (!isBoat(n)) return far(-1);
        Boat b = s.boats.get(n);
        int worst = 0;
        for (int h = 0; h < 12; h++) worst = Math.max(worst, need(b, s.tide[h]));
        int w = 0;
        while (w * w < worst) w++;
        return b.length - w;
    }

    int alongside(int what) {
        if (what < 0 || what > 2) return no(-2);
        int n = s.boats.size();
        if (n == 0 || row.size() != n || row.stream().anyMatch(v -> v > 12)) return no(-3);
        List<Integer> order = new ArrayList<>();
        for (int i = 0; i < n; i++) order.add(i);
        if (what == 0) return moves(order);
        List<List<Integer>> orders = new ArrayList<>();
        permute(new ArrayList<>(), n, orders);
        List<Integer> best = null;
        for (List<Integer> o : orders) {
            if (best == null || moves(o) < moves(best)) best = o;
        }
        if (what == 1) return moves(best);
        int digits = 0;
        for (int i = n - 1; i >= 0; i--) digits = digits * 10 + best.get(i);
        return digits;
    }

    private static void permute(List<Integer> head, int n, List<List<Integer>> into) {
        if (head.size() == n) into.add(new ArrayList<>(head));
        for (int i = 0; i < n; i++) {
            if (head.contains(i)) continue;
            head.add(i);
            permute(head, n, into);
            head.remove(head.size() - 1);
        }
    }

    /** Plays the day: at each HOUR those that go, the outmost first, leave the row. */
    private int moves(List<Integer> order) {
        List<Integer> there = new ArrayList<>(order);
        int moves = 0;
        for (int h = 0; h < 12; h++) {
            for (int i = there.size() - 1; i >= 0; i--) {
                if (row.get(there.get(i)) == h) {
                    moves += there.size() - 1 - i;
                    there.remove(i);
                }
            }
        }
        return moves;
    }

    int mud(int height, int a) {
        if (height < 0) return no(-4);
        if (height > 40) return no(-6);
        if (!isHour(a)) return no(-1);
        for (int i = a; i < a + 12; i++) {
            if (s.tide[i % 12] > height) return i % 12;
        }
        return -9;
    }

    int carry(int height, int a, int b) {
        if (height < 0) return no(-4);
        if (height > 40) return no(-6);
        if (!isHour(a) || !isHour(b) || a == b) return no(-1);
        for (int h = height; h <= 40; h++) {
            int i = a;
            while (i != b && s.tide[i] <= h) i = (i + 1) % 12;
            if (i == b && s.tide[b] > h) return h;
        }
        return -9;
    }

    int berths(int what) {
        if (what != 0 && what != 1) return no(-2);
        if (s.boats.isEmpty()) return no(-3);
        int[] best = {-1, 0};
        tryBerths(0, new int[s.boats.size()], best);
        return best[what];
    }

    private void tryBerths(int n, int[] at, int[] best) {
        if (n == at.length) {
            int well = 0;
            int digits = 0;
            for (int i = n - 1; i >= 0; i--) {
                digits = digits * 10 + at[i];
                if (at[i] == 9) continue;
                Boat b = s.boats.get(i).copy();
                b.ring = at[i];
                if (bits(h -> well(b, h)) == 4095) well++;
            }
            if (well > best[0]) {
                best[0] = well;
                best[1] = digits;
            }
            return;
        }
        for (int r = 0; r <= 9; r++) {
            if (r < 9 && r >= s.rings.size()) continue;
            boolean free = true;
            for (int i = 0; i < n; i++) free &= at[i] != r || r == 9;
            if (!free) continue;
            at[n] = r;
            tryBerths(n + 1, at, best);
        }
    }

    int saves(int n, int kind) {
        if (!isBoat(n)) return far(-1);
        if (kind < 0 || kind > 5) return far(-2);
        Boat tie = s.boats.get(n).copy();
        tie.kind = 0;
        Boat as = s.boats.get(n).copy();
        as.kind = kind;
        int one = least(tie) == -9 ? 99 : least(tie);
        int other = least(as) == -9 ? 99 : least(as);
        return one - other;
    }

    int marks(int n, int hours, int what) {
        if (!isBoat(n)) return no(-1);
        if (hours < 0) return no(-4);
        if (hours > 4095) return no(-6);
        if (what != 0 && what != 1) return no(-2);
        int many = 0;
        int least = -9;
        for (int l = 0; l <= 99; l++) {
            Boat b = s.boats.get(n).copy();
            b.length = l;
            if (hanging(b) != hours) continue;
            many++;
            if (least == -9) least = l;
        }
        return what == 0 ? many : least;
    }

    int whose(int hours) {
        if (hours < 0) return no(-4);
        if (hours > 4095) return no(-6);
        int bits = 0;
        for (int n = 0; n < s.boats.size(); n++) {
            if (hanging(s.boats.get(n)) == hours) bits |= 1 << n;
        }
        return bits;
    }

    int row(int v) {
        if (v < 0) return no(-4);
        if (v > 99 || row.size() == 12) return no(-6);
        row.add(v);
        return row.size();
    }

    int judge(int n) {
        if (!isBoat(n)) return no(-1);
        int first = -9;
        for (int i = 0; i < row.size() && first == -9; i++) {
            if (outOf(s.boats.get(n), s.tide[(s.hour + i) % 12]) != row.get(i)) first = i;
        }
        row.clear();
        return first;
    }

    int drop() {
        int had = row.size();
        row.clear();
        return had;
    }

    int seeds(int n, int many, int z, int what) {
        if (!isBoat(n)) return no(-1);
        if (many < 1) return no(-4);
        if (many > 20) return no(-6);
        if (what != 0 && what != 1) return no(-2);
        int together = 0;
        int never = 0;
        for (int i = 0; i < many; i++) {
            int hung = 0;
            for (int h = 0; h < 12; h++) {
                z = (int) (z * 1103515245L + 12345L);
                int tide = (int) ((z & 0x7fffffffL) / 65536L % 41L);
                if (hangs(s.boats.get(n), tide)) hung++;
            }
            together += hung;
            if (hung == 0) never++;
        }
        return what == 0 ? together : never;
    }

    int back() {
        if (paid.isEmpty()) return no(-3);
        int[] last = paid.removeLast();
        s.boats.get(last[0]).length = last[1];
        return last[0];
    }

    int spring(int v) {
        if (v < 0) return no(-4);
        if (v > 9) return no(-6);
        int was = s.spring;
        s.spring = v;
        return was;
    }

    private int swelled(int h, int d) {
        int by = s.spring * Math.abs(d - 7) / 7;
        int t = s.tide[h];
        if (t > 20) t += by;
        else if (t < 20) t -= by;
        return t > 40 ? 40 : t < 0 ? 0 : t;
    }

    int swells(int h, int d) {
        if (!isHour(h)) return no(-1);
        if (d < 0) return no(-4);
        if (d > 13) return no(-6);
        return swelled(h, d);
    }

    private int days(Boat b) {
        int bits = 0;
        for (int d = 0; d < 14; d++) {
            int day = d;
            if (bits(h -> hangs(b, swelled(h, day))) != 0) bits |= 1 << d;
        }
        return bits;
    }

    int fortnight(int n, int what) {
        if (!isBoat(n)) return no(-1);
        if (what < 0 || what > 2) return no(-2);
        Boat b = s.boats.get(n).copy();
        if (what == 0) return days(b);
        if (what == 1) return days(b) == 0 ? -9 : Integer.numberOfTrailingZeros(days(b));
        for (int l = 0; l <= 99; l++) {
            b.length = l;
            if (days(b) == 0) return l;
        }
        return -9;
    }

    private int watching(Boat b, int k) {
        int changes = 0;
        int held = -1;
        for (int from = 0; from < 12; from += k) {
            int found = -1;
            for (int l = 99; l >= 0; l--) {
                boolean all = true;
                for (int h = from; h < from + k && h < 12; h++) all &= good(b, l, h);
                if (all) found = l;
            }
            if (found == -1) return -9;
            if (from != 0 && found != held) changes++;
            held = found;
        }
        return changes;
    }

    int watch(int n, int k) {
        if (!isBoat(n)) return no(-1);
        if (k < 1) return no(-4);
        if (k > 6) return no(-6);
        return watching(s.boats.get(n), k);
    }

    int seldom(int n) {
        if (!isBoat(n)) return no(-1);
        int greatest = -9;
        for (int k = 1; k <= 6; k++) {
            if (watching(s.boats.get(n), k) != -9) greatest = k;
        }
        return greatest;
    }

    int wake(int n, int times) {
        if (!isBoat(n)) return no(-1);
        if (times < 0) return no(-4);
        if (times > 3) return no(-6);
        return mostGood(goodLengths(s.boats.get(n)), 0, times);
    }

    private static int mostGood(boolean[][] good, int from, int times) {
        if (from == 12) return 0;
        int most = 0;
        for (int end = from + 1; end <= 12; end++) {
            if (end < 12 && times == 0) continue;
            int here = 0;
            for (int l = 0; l < 100; l++) {
                int many = 0;
                for (int h = from; h < end; h++) many += good[h][l] ? 1 : 0;
                here = Math.max(here, many);
            }
            most = Math.max(most, here + (end == 12 ? 0 : mostGood(good, end, times - 1)));
        }
        return most;
    }

    int ramp(int height, int wide) {
        if (height < 0 || wide < 1) return no(-4);
        if (height > 60 || wide > 40 || s.ramps.size() == 3) return no(-6);
        s.ramps.add(new int[] {height, wide});
        return s.ramps.size() - 1;
    }

    private int steep(int height, int wide, int h) {
        return 100 * Math.abs(s.tide[h] - height) / wide;
    }

    int slope(int r, int h) {
        if (r < 0 || r >= s.ramps.size() || !isHour(h)) return no(-1);
        return steep(s.ramps.get(r)[0], s.ramps.get(r)[1], h);
    }

    int open(int r, int slope) {
        if (r < 0 || r >= s.ramps.size()) return no(-1);
        if (slope < 0) return no(-4);
        if (slope > 999) return no(-6);
        return bits(h -> steep(s.ramps.get(r)[0], s.ramps.get(r)[1], h) <= slope);
    }

    int bridge(int height, int slope, int n) {
        if (height < 0 || slope < 0 || n < 0) return no(-4);
        if (height > 60 || slope > 999 || n > 12) return no(-6);
        for (int w = 1; w <= 40; w++) {
            int wide = w;
            if (Integer.bitCount(bits(h -> steep(height, wide, h) <= slope)) >= n) return w;
        }
        return -9;
    }

    private int waits(int feet, int a) {
        for (int i = 0; i < 12; i++) {
            if (s.tide[(a + i) % 12] >= feet) return i;
        }
        return -9;
    }

    int passes(int sill, int f, int a) {
        if (sill < 0 || f < 0) return no(-4);
        if (sill > 40 || f > 9) return no(-6);
        if (!isHour(a)) return no(-1);
        return waits(sill + f, a) == -9 ? -9 : (a + waits(sill + f, a)) % 12;
    }

    int waited(int sill, int f) {
        if (sill < 0 || f < 0) return no(-4);
        if (sill > 40 || f > 9) return no(-6);
        if (row.stream().anyMatch(v -> v > 11)) return no(-3);
        int sum = 0;
        for (int a : row) {
            if (waits(sill + f, a) == -9) return -9;
            sum += waits(sill + f, a);
        }
        return sum;
    }

    int cheapest(int what) {
        if (what != 0 && what != 1) return no(-2);
        if (s.boats.isEmpty()) return no(-3);
        int[] best = {-9, -9};
        tryCheapest(0, new int[s.boats.size()], 0, best);
        return best[what];
    }

    private void tryCheapest(int n, int[] at, int sum, int[] best) {
        if (n == at.length) {
            if (best[0] != -9 && best[0] <= sum) return;
            best[0] = sum;
            best[1] = 0;
            for (int i = n - 1; i >= 0; i--) best[1] = best[1] * 10 + at[i];
            return;
        }
        for (int r = 0; r < s.rings.size(); r++) {
            boolean free = true;
            for (int i = 0; i < n; i++) free &= at[i] != r;
            Boat b = s.boats.get(n).copy();
            b.ring = r;
            if (!free || least(b) == -9) continue;
            at[n] = r;
            tryCheapest(n + 1, at, sum + least(b), best);
        }
    }

    int crossed(int h) {
        if (!isHour(h)) return no(-1);
        int pairs = 0;
        for (Boat a : s.boats) {
            for (Boat b : s.boats) {
                if (place(a.ring) < place(b.ring) && blown(a, h) > blown(b, h)) pairs++;
            }
        }
        return pairs;
    }

    int hung(int n, int hours, int what) {
        if (!isBoat(n)) return no(-1);
        if (hours < 0) return no(-4);
        if (hours > 4095) return no(-6);
        if (what != 0 && what != 1) return no(-2);
        int many = 0;
        int least = -9;
        for (int r = 0; r < s.rings.size(); r++) {
            for (int l = 0; l <= 99; l++) {
                Boat b = s.boats.get(n).copy();
                b.ring = r;
                b.length = l;
                if (hanging(b) != hours) continue;
                many++;
                if (least == -9) least = 100 * r + l;
            }
        }
        return what == 0 ? many : least;
    }

    private int worth(Boat own, Boat other) {
        int sum = -50 * Integer.bitCount(touching(own, other)) - 99 * Integer.bitCount(hanging(own));
        for (int h = 0; h < 12; h++) sum += outOf(own, s.tide[h]);
        return sum;
    }

    int skippers(int one, int other, int what) {
        if (!isBoat(one) || !isBoat(other) || one == other) return no(-1);
        if (what != 0 && what != 1) return no(-2);
        Boat a = s.boats.get(one), b = s.boats.get(other);
        int[][] first = new int[5][5];
        int[][] second = new int[5][5];
        for (int i = 0; i < 5; i++) {
            for (int j = 0; j < 5; j++) {
                Boat c = a.copy(), d = b.copy();
                c.length = held(a.length - 2 + i);
                d.length = held(b.length - 2 + j);
                first[i][j] = worth(c, d);
                second[i][j] = worth(d, c);
            }
        }
        for (int i = 0; i < 5; i++) {
            for (int j = 0; j < 5; j++) {
                boolean content = true;
                for (int k = 0; k < 5; k++) content &= first[k][j] <= first[i][j] && second[i][k] <= second[i][j];
                if (content) return what == 0 ? held(a.length - 2 + i) : held(b.length - 2 + j);
            }
        }
        return -9;
    }

    private static int held(int length) {
        return Math.max(0, Math.min(99, length));
    }

    int image() {
        taken = s.copy();
        return s.hour;
    }

    int restore() {
        if (taken == null) return no(-3);
        s = taken.copy();
        paid.clear();
        return s.hour;
    }

    int count(int what) {
        switch (what) {
            case 0: return s.boats.size();
            case 1: return s.rings.size();
            case 2: return s.hour;
            case 3: return s.edge;
            case 4: return s.bow;
            case 5: return s.boats.stream().mapToInt(b -> b.length).sum();
            case 6: return (int) s.boats.stream().filter(b -> hangs(b, s.tide[s.hour])).count();
            case 7: return letters.length();
            case 8: return row.size();
            case 9: return s.spring;
            case 10: return s.ramps.size();
            case 11: case 12: case 13: case 14: case 15: case 16: return refusals[what - 10];
            case 17: return paid.size();
            default: return -9;
        }
    }
}
