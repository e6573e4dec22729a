import java.util.Arrays;

/**
 * A quay with rings, a tide hour by hour and boats tied to the rings: which hang at low water, and
 * what follows from it. The promises are those of DOC.md; words in capitals are its terms.
 */
public final class HangsAtLowWater {
    private static final int HOURS = 12;
    private static final int ALL_HOURS = 4095;
    private static final int DAYS = 14;
    private static final int MIDDLE_DAY = 7;
    private static final int MEAN_TIDE = 20;
    private static final int GREATEST_TIDE = 40;
    private static final int GREATEST_HEIGHT = 60;
    private static final int GREATEST_EDGE = 60;
    private static final int GREATEST_BOW = 9;
    private static final int GREATEST_FIGURE = 9;
    private static final int GREATEST_LENGTH = 99;
    private static final int GREATEST_LONG = 20;
    private static final int GREATEST_RAMP_LONG = 40;
    private static final int GREATEST_SLOPE = 999;
    private static final int GREATEST_SPRING = 9;
    private static final int GREATEST_WATCH = 6;
    private static final int GREATEST_WAKES = 3;
    private static final int GREATEST_TIDES = 20;
    private static final int GREATEST_LETTER = 255;
    private static final int GREATEST_NUMBER = 99;
    private static final int STAYS = 12;

    private static final int MOST_RINGS = 6;
    private static final int MOST_BOATS = 5;
    private static final int MOST_RAMPS = 3;
    private static final int MOST_LETTERS = 96;
    private static final int MOST_NUMBERS = 12;
    private static final int MOST_PAID = 8;

    private static final int TIE = 0;
    private static final int TWO = 1;
    private static final int WEIGHT = 2;
    private static final int POLE = 3;
    private static final int ROW = 4;
    private static final int LEGS = 5;
    private static final int KINDS = 6;

    private static final int PLACE = 0;
    private static final int HEIGHT = 1;
    private static final int RING_CELLS = 2;
    private static final int KIND = 0;
    private static final int FIGURE = 1;
    private static final int RING = 2;
    private static final int OTHER_RING = 3;
    private static final int LENGTH = 4;
    private static final int LONG = 5;
    private static final int FAR = 6;
    private static final int BOAT_CELLS = 7;
    private static final int RAMP_HEIGHT = 0;
    private static final int RAMP_LONG = 1;
    private static final int RAMP_CELLS = 2;

    private static final int NOBODY = -1;
    private static final int OTHER = -2;
    private static final int STATE = -3;
    private static final int BELOW = -4;
    private static final int ROOM = -6;
    private static final int NONE = -9;
    private static final int FIRST_REFUSAL_COUNT = 11;
    private static final int LAST_REFUSAL_COUNT = 16;
    private static final int FAR_REFUSAL = 1000000000;
    private static final int STRANGE_LETTER = -1000;
    private static final int WRONG_STATEMENT = -2000;

    private static final int SKIPPERS_SPAN = 2;
    private static final int SKIPPERS_CHOICES = 5;
    private static final int TOUCH_COST = 50;
    private static final int HANGING_COST = 99;

    private final Harbour harbour = new Harbour();
    private final Harbour taken = new Harbour();
    private final Harbour trial = new Harbour();
    private boolean isTaken = false;
    private final Letters letters = new Letters();
    private final Numbers numbers = new Numbers();
    private final PaidLengths paid = new PaidLengths();
    private final int[] refusals = new int[1 - ROOM];

    // Rows that calls work in: made once, since all calls of a run share one room.
    private final Mooring mooring = new Mooring();
    private final Mooring neighbour = new Mooring();
    private final Limits limits = new Limits();
    private final Berthing berthing = new Berthing();
    private final Choices choices = new Choices();
    private final int[] order = new int[MOST_BOATS];

    public HangsAtLowWater() {
    }

    // ---- the quay, told in letters ----

    public int feed(int letter) {
        if (letter < 0) {
            return refused(BELOW);
        }
        if (letter > GREATEST_LETTER || letters.size >= MOST_LETTERS) {
            return refused(ROOM);
        }
        letters.append(letter);
        return letters.size;
    }

    public int quay() {
        int strange = letters.strangePlace();
        int answer = strange == NONE ? takeStatements() : STRANGE_LETTER - strange;
        letters.size = 0;
        return answer;
    }

    /** All statements are tried on a copy, so that with a FAULT nothing of them comes. */
    private int takeStatements() {
        trial.copyFrom(harbour);
        int statements = 0;
        int start = 0;
        while (start < letters.size && statements < MOST_LETTERS) {
            if (!letters.tellStatement(start, trial)) {
                return WRONG_STATEMENT - start;
            }
            start += letters.statementSize(start);
            statements++;
        }
        harbour.copyFrom(trial);
        paid.size = 0;
        return statements;
    }

    // ---- what there is ----

    public int tide(int hour) {
        return isHour(hour) ? harbour.tideAt(hour) : refused(NOBODY);
    }

    public int wind(int hour) {
        return isHour(hour) ? harbour.windAt(hour) : refusedFar(NOBODY);
    }

    public int rises(int hour, int v) {
        if (!isHour(hour)) {
            return refused(NOBODY);
        }
        if (v < 0) {
            return refused(BELOW);
        }
        if (v > GREATEST_TIDE) {
            return refused(ROOM);
        }
        int was = harbour.tideAt(hour);
        harbour.setTide(hour, v);
        return was;
    }

    public int ring(int ring, int what) {
        if (!harbour.hasRing(ring)) {
            return refused(NOBODY);
        }
        if (what < 0 || what >= RING_CELLS) {
            return refused(OTHER);
        }
        return harbour.ringCell(ring, what);
    }

    public int boat(int boat, int what) {
        if (!harbour.hasBoat(boat)) {
            return refused(NOBODY);
        }
        if (what < 0 || what >= BOAT_CELLS) {
            return refused(OTHER);
        }
        return harbour.boatCell(boat, what);
    }

    public int pay(int boat, int v) {
        if (!harbour.hasBoat(boat)) {
            return refused(NOBODY);
        }
        if (v < 0) {
            return refused(BELOW);
        }
        if (v > GREATEST_LENGTH) {
            return refused(ROOM);
        }
        int was = harbour.boatCell(boat, LENGTH);
        paid.push(boat, was);
        harbour.setBoatCell(boat, LENGTH, v);
        return was;
    }

    public int tie(int boat, int ring) {
        if (!harbour.hasBoat(boat) || !harbour.hasRing(ring)) {
            return refused(NOBODY);
        }
        int was = harbour.boatCell(boat, RING);
        harbour.setBoatCell(boat, RING, ring);
        paid.size = 0;
        return was;
    }

    public int set(int what, int v) {
        if (!isOneOf(what, 2)) {
            return refused(OTHER);
        }
        if (v < 0) {
            return refused(BELOW);
        }
        if (v > (what == 0 ? GREATEST_EDGE : GREATEST_BOW)) {
            return refused(ROOM);
        }
        int was = what == 0 ? harbour.edge : harbour.bow;
        if (what == 0) {
            harbour.edge = v;
        } else {
            harbour.bow = v;
        }
        return was;
    }

    public int hour() {
        harbour.hour = (harbour.hour + 1) % HOURS;
        return harbour.hour;
    }

    // ---- one boat at its line ----

    public int needs(int boat, int hour) {
        if (!harbour.hasBoat(boat) || !isHour(hour)) {
            return refused(NOBODY);
        }
        mooring.load(harbour, boat);
        return mooring.squareNeeded(harbour.tideAt(hour));
    }

    public int out(int boat, int hour) {
        if (!harbour.hasBoat(boat) || !isHour(hour)) {
            return refused(NOBODY);
        }
        mooring.load(harbour, boat);
        return mooring.reach(mooring.length, harbour.tideAt(hour));
    }

    public int lies(int boat, int hour, int what) {
        if (!harbour.hasBoat(boat) || !isHour(hour)) {
            return refusedFar(NOBODY);
        }
        if (!isOneOf(what, 3)) {
            return refusedFar(OTHER);
        }
        mooring.load(harbour, boat);
        int reach = mooring.reach(mooring.length, harbour.tideAt(hour));
        if (what == 0) {
            return mooring.stillMiddle() - reach;
        }
        if (what == 1) {
            return mooring.stillMiddle() + reach + mooring.wide;
        }
        return mooring.blownMiddle(harbour.tideAt(hour), harbour.windAt(hour));
    }

    public int hours(int boat, int what) {
        if (!harbour.hasBoat(boat)) {
            return refused(NOBODY);
        }
        mooring.load(harbour, boat);
        switch (what) {
            case 0:
                return mooring.hangingHours(harbour.tides);
            case 1:
                return mooring.tooFarHours(harbour.tides);
            case 2:
                return harbour.hoursUnder();
            case 3:
                return ALL_HOURS & ~(mooring.hangingHours(harbour.tides)
                        | mooring.tooFarHours(harbour.tides) | harbour.hoursUnder());
            default:
                return refused(OTHER);
        }
    }

    public int length(int boat, int what) {
        if (!harbour.hasBoat(boat)) {
            return refused(NOBODY);
        }
        if (!isOneOf(what, 3)) {
            return refused(OTHER);
        }
        mooring.load(harbour, boat);
        limits.measure(mooring, harbour.tides);
        if (what == 0) {
            return lengthOrNone(limits.leastAllDay());
        }
        if (what == 1) {
            return limits.greatestAllDay();
        }
        if (harbour.hoursUnder() != 0) {
            return 0;
        }
        return Math.max(0, limits.greatestAllDay() - limits.leastAllDay() + 1);
    }

    public int tended(int boat, int what) {
        if (!harbour.hasBoat(boat)) {
            return refused(NOBODY);
        }
        if (!isOneOf(what, 2)) {
            return refused(OTHER);
        }
        mooring.load(harbour, boat);
        limits.measure(mooring, harbour.tides);
        int changed = limits.hoursChanged();
        return what == 0 && changed != NONE ? Integer.bitCount(changed) : changed;
    }

    public int slack(int boat) {
        if (!harbour.hasBoat(boat)) {
            return refusedFar(NOBODY);
        }
        mooring.load(harbour, boat);
        return mooring.length - mooring.leastFor(harbour.tides);
    }

    public int saves(int boat, int kind) {
        if (!harbour.hasBoat(boat)) {
            return refusedFar(NOBODY);
        }
        if (!isOneOf(kind, KINDS)) {
            return refusedFar(OTHER);
        }
        mooring.load(harbour, boat);
        mooring.kind = TIE;
        int ofTie = Math.min(GREATEST_LENGTH, mooring.leastFor(harbour.tides));
        mooring.kind = kind;
        return ofTie - Math.min(GREATEST_LENGTH, mooring.leastFor(harbour.tides));
    }

    // ---- neighbours ----

    public int touch(int one, int other) {
        if (!areTwoBoats(one, other)) {
            return refused(NOBODY);
        }
        mooring.load(harbour, one);
        neighbour.load(harbour, other);
        return mooring.touching(mooring.length, neighbour, neighbour.length, harbour.tides);
    }

    public int clear(int one, int other) {
        if (!areTwoBoats(one, other)) {
            return refused(NOBODY);
        }
        mooring.load(harbour, one);
        neighbour.load(harbour, other);
        int best = NONE;
        int fewest = HOURS + 1;
        for (int line = mooring.leastFor(harbour.tides); line <= GREATEST_LENGTH; line++) {
            int touches = Integer.bitCount(
                    mooring.touching(line, neighbour, neighbour.length, harbour.tides));
            if (touches < fewest) {
                fewest = touches;
                best = line;
            }
        }
        return best;
    }

    public int crossed(int hour) {
        if (!isHour(hour)) {
            return refused(NOBODY);
        }
        int pairs = 0;
        for (int one = 0; one < harbour.boats; one++) {
            for (int other = one + 1; other < harbour.boats; other++) {
                if (areCrossed(one, other, hour)) {
                    pairs++;
                }
            }
        }
        return pairs;
    }

    private boolean areCrossed(int one, int other, int hour) {
        mooring.load(harbour, one);
        neighbour.load(harbour, other);
        int tide = harbour.tideAt(hour);
        int wind = harbour.windAt(hour);
        int rings = Integer.compare(mooring.place, neighbour.place);
        int middles = Integer.compare(mooring.blownMiddle(tide, wind), neighbour.blownMiddle(tide, wind));
        return rings < 0 && middles > 0 || rings > 0 && middles < 0;
    }

    public int skippers(int one, int other, int what) {
        if (!areTwoBoats(one, other)) {
            return refused(NOBODY);
        }
        if (!isOneOf(what, 2)) {
            return refused(OTHER);
        }
        mooring.load(harbour, one);
        neighbour.load(harbour, other);
        choices.weigh(mooring, neighbour, harbour.tides);
        return what == 0 ? choices.firstLength() : choices.otherLength();
    }

    // ---- boats alongside ----

    public int alongside(int what) {
        if (!isOneOf(what, 3)) {
            return refused(OTHER);
        }
        if (harbour.boats == 0 || numbers.size != harbour.boats || numbers.greatest() > STAYS) {
            return refused(STATE);
        }
        if (what == 0) {
            orderByNumber();
            return movesInOrder();
        }
        orderLatestInmost();
        return what == 1 ? movesInOrder() : orderDigits();
    }

    private void orderByNumber() {
        for (int i = 0; i < MOST_BOATS; i++) {
            order[i] = i;
        }
    }

    /**
     * No boat must be moved if none outside it goes later. So the fewest MOVES are those of the
     * order by falling HOURS; the first such order has the lower number inside where HOURS are alike.
     */
    private void orderLatestInmost() {
        int filled = 0;
        for (int hour = STAYS; hour >= 0; hour--) {
            for (int boat = 0; boat < harbour.boats; boat++) {
                if (numbers.at(boat) == hour && filled < MOST_BOATS) {
                    order[filled] = boat;
                    filled++;
                }
            }
        }
    }

    private int movesInOrder() {
        int moves = 0;
        for (int inside = 0; inside < harbour.boats && inside < MOST_BOATS; inside++) {
            int goes = numbers.at(order[inside]);
            for (int outside = inside + 1; outside < harbour.boats && outside < MOST_BOATS; outside++) {
                if (goes != STAYS && numbers.at(order[outside]) > goes) {
                    moves++;
                }
            }
        }
        return moves;
    }

    private int orderDigits() {
        int digits = 0;
        for (int i = Math.min(harbour.boats, MOST_BOATS) - 1; i >= 0; i--) {
            digits = digits * 10 + order[i];
        }
        return digits;
    }

    // ---- mud, gates and ramps ----

    public int mud(int height, int a) {
        if (height < 0) {
            return refused(BELOW);
        }
        if (height > GREATEST_TIDE) {
            return refused(ROOM);
        }
        if (!isHour(a)) {
            return refused(NOBODY);
        }
        return harbour.firstHourWith(height + 1, a);
    }

    public int carry(int height, int a, int b) {
        if (height < 0) {
            return refused(BELOW);
        }
        if (height > GREATEST_TIDE) {
            return refused(ROOM);
        }
        if (!isHour(a) || !isHour(b) || a == b) {
            return refused(NOBODY);
        }
        int least = height;
        int ahead = Math.floorMod(b - a, HOURS);
        for (int i = 0; i < ahead; i++) {
            least = Math.max(least, harbour.tideAt((a + i) % HOURS));
        }
        return harbour.tideAt(b) > least ? least : NONE;
    }

    public int passes(int sill, int f, int a) {
        if (sill < 0 || f < 0) {
            return refused(BELOW);
        }
        if (sill > GREATEST_TIDE || f > GREATEST_FIGURE) {
            return refused(ROOM);
        }
        if (!isHour(a)) {
            return refused(NOBODY);
        }
        return harbour.firstHourWith(sill + f, a);
    }

    public int waited(int sill, int f) {
        if (sill < 0 || f < 0) {
            return refused(BELOW);
        }
        if (sill > GREATEST_TIDE || f > GREATEST_FIGURE) {
            return refused(ROOM);
        }
        if (numbers.greatest() >= HOURS) {
            return refused(STATE);
        }
        int together = 0;
        for (int i = 0; i < numbers.size; i++) {
            int from = numbers.at(i);
            int through = harbour.firstHourWith(sill + f, from);
            if (through == NONE) {
                return NONE;
            }
            together += Math.floorMod(through - from, HOURS);
        }
        return together;
    }

    public int ramp(int height, int wide) {
        if (height < 0 || wide < 1) {
            return refused(BELOW);
        }
        if (height > GREATEST_HEIGHT || wide > GREATEST_RAMP_LONG || harbour.ramps >= MOST_RAMPS) {
            return refused(ROOM);
        }
        harbour.addRamp(height, wide);
        return harbour.ramps - 1;
    }

    public int slope(int ramp, int hour) {
        if (!harbour.hasRamp(ramp) || !isHour(hour)) {
            return refused(NOBODY);
        }
        return harbour.slopeOf(harbour.rampCell(ramp, RAMP_HEIGHT), harbour.rampCell(ramp, RAMP_LONG), hour);
    }

    public int open(int ramp, int slope) {
        if (!harbour.hasRamp(ramp)) {
            return refused(NOBODY);
        }
        if (slope < 0) {
            return refused(BELOW);
        }
        if (slope > GREATEST_SLOPE) {
            return refused(ROOM);
        }
        return harbour.hoursOpen(harbour.rampCell(ramp, RAMP_HEIGHT), harbour.rampCell(ramp, RAMP_LONG), slope);
    }

    public int bridge(int height, int slope, int n) {
        if (height < 0 || slope < 0 || n < 0) {
            return refused(BELOW);
        }
        if (height > GREATEST_HEIGHT || slope > GREATEST_SLOPE || n > HOURS) {
            return refused(ROOM);
        }
        for (int wide = 1; wide <= GREATEST_RAMP_LONG; wide++) {
            if (Integer.bitCount(harbour.hoursOpen(height, wide, slope)) >= n) {
                return wide;
            }
        }
        return NONE;
    }

    // ---- which ring for which boat ----

    public int berths(int what) {
        if (!isOneOf(what, 2)) {
            return refused(OTHER);
        }
        if (harbour.boats == 0) {
            return refused(STATE);
        }
        for (int boat = 0; boat < harbour.boats; boat++) {
            mooring.load(harbour, boat);
            for (int ring = 0; ring < harbour.rings; ring++) {
                mooring.moveTo(harbour, ring);
                berthing.setCost(boat, ring, isWellAllDay() ? -1 : 0);
            }
        }
        berthing.solve(harbour.boats, harbour.rings, 0);
        return what == 0 ? -berthing.leastCost() : berthing.ringDigits();
    }

    private boolean isWellAllDay() {
        return harbour.hoursUnder() == 0 && mooring.hangingHours(harbour.tides) == 0
                && mooring.tooFarHours(harbour.tides) == 0;
    }

    public int cheapest(int what) {
        if (!isOneOf(what, 2)) {
            return refused(OTHER);
        }
        if (harbour.boats == 0) {
            return refused(STATE);
        }
        for (int boat = 0; boat < harbour.boats; boat++) {
            mooring.load(harbour, boat);
            for (int ring = 0; ring < harbour.rings; ring++) {
                mooring.moveTo(harbour, ring);
                int least = mooring.leastFor(harbour.tides);
                berthing.setCost(boat, ring, least > GREATEST_LENGTH ? Berthing.NEVER : least);
            }
        }
        berthing.solve(harbour.boats, harbour.rings, Berthing.NEVER);
        if (berthing.leastCost() >= Berthing.NEVER) {
            return NONE;
        }
        return what == 0 ? berthing.leastCost() : berthing.ringDigits();
    }

    // ---- marks that tell how it hung ----

    public int marks(int boat, int hours, int what) {
        int wrong = wrongOfMarks(boat, hours, what);
        if (wrong != 0) {
            return refused(wrong);
        }
        mooring.load(harbour, boat);
        int many = 0;
        int least = NONE;
        for (int line = GREATEST_LENGTH; line >= 0; line--) {
            if (mooring.hangingWith(line, harbour.tides) == hours) {
                many++;
                least = line;
            }
        }
        return what == 0 ? many : least;
    }

    public int whose(int hours) {
        if (hours < 0) {
            return refused(BELOW);
        }
        if (hours > ALL_HOURS) {
            return refused(ROOM);
        }
        int bits = 0;
        for (int boat = 0; boat < harbour.boats; boat++) {
            mooring.load(harbour, boat);
            if (mooring.hangingHours(harbour.tides) == hours) {
                bits |= 1 << boat;
            }
        }
        return bits;
    }

    public int hung(int boat, int hours, int what) {
        int wrong = wrongOfMarks(boat, hours, what);
        if (wrong != 0) {
            return refused(wrong);
        }
        mooring.load(harbour, boat);
        int many = 0;
        int least = NONE;
        for (int ring = harbour.rings - 1; ring >= 0; ring--) {
            mooring.moveTo(harbour, ring);
            for (int line = GREATEST_LENGTH; line >= 0; line--) {
                if (mooring.hangingWith(line, harbour.tides) == hours) {
                    many++;
                    least = 100 * ring + line;
                }
            }
        }
        return what == 0 ? many : least;
    }

    private int wrongOfMarks(int boat, int hours, int what) {
        if (!harbour.hasBoat(boat)) {
            return NOBODY;
        }
        if (hours < 0) {
            return BELOW;
        }
        if (hours > ALL_HOURS) {
            return ROOM;
        }
        return isOneOf(what, 2) ? 0 : OTHER;
    }

    // ---- the row of numbers ----

    public int row(int v) {
        if (v < 0) {
            return refused(BELOW);
        }
        if (v > GREATEST_NUMBER || numbers.size >= MOST_NUMBERS) {
            return refused(ROOM);
        }
        numbers.append(v);
        return numbers.size;
    }

    public int judge(int boat) {
        if (!harbour.hasBoat(boat)) {
            return refused(NOBODY);
        }
        mooring.load(harbour, boat);
        int wrong = NONE;
        for (int i = numbers.size - 1; i >= 0; i--) {
            int tide = harbour.tideAt((harbour.hour + i) % HOURS);
            if (mooring.reach(mooring.length, tide) != numbers.at(i)) {
                wrong = i;
            }
        }
        numbers.size = 0;
        return wrong;
    }

    public int drop() {
        int had = numbers.size;
        numbers.size = 0;
        return had;
    }

    // ---- tides by seeds ----

    public int seeds(int boat, int n, int z, int what) {
        if (!harbour.hasBoat(boat)) {
            return refused(NOBODY);
        }
        if (n < 1) {
            return refused(BELOW);
        }
        if (n > GREATEST_TIDES) {
            return refused(ROOM);
        }
        if (!isOneOf(what, 2)) {
            return refused(OTHER);
        }
        mooring.load(harbour, boat);
        int seed = z;
        int hanging = 0;
        int never = 0;
        for (int tide = 0; tide < n; tide++) {
            int ahead = hanging;
            for (int hour = 0; hour < HOURS; hour++) {
                seed = seed * 1103515245 + 12345;
                if (mooring.hangs(mooring.length, drawBelow(seed, GREATEST_TIDE + 1))) {
                    hanging++;
                }
            }
            if (hanging == ahead) {
                never++;
            }
        }
        return what == 0 ? hanging : never;
    }

    private static int drawBelow(int seed, int bound) {
        return bound < 1 ? 0 : (seed & 0x7fffffff) / 65536 % bound;
    }

    // ---- lengths taken back ----

    public int back() {
        if (paid.size == 0) {
            return refused(STATE);
        }
        int boat = paid.lastBoat();
        harbour.setBoatCell(boat, LENGTH, paid.lastLength());
        paid.size--;
        return boat;
    }

    // ---- a fortnight ----

    public int spring(int v) {
        if (v < 0) {
            return refused(BELOW);
        }
        if (v > GREATEST_SPRING) {
            return refused(ROOM);
        }
        int was = harbour.spring;
        harbour.spring = v;
        return was;
    }

    public int swells(int hour, int day) {
        if (!isHour(hour)) {
            return refused(NOBODY);
        }
        if (day < 0) {
            return refused(BELOW);
        }
        if (day >= DAYS) {
            return refused(ROOM);
        }
        return harbour.tideOn(hour, day);
    }

    public int fortnight(int boat, int what) {
        if (!harbour.hasBoat(boat)) {
            return refused(NOBODY);
        }
        if (!isOneOf(what, 3)) {
            return refused(OTHER);
        }
        mooring.load(harbour, boat);
        int days = 0;
        int first = NONE;
        int least = 0;
        for (int day = DAYS - 1; day >= 0; day--) {
            int leastThen = leastOnDay(day);
            least = Math.max(least, leastThen);
            if (mooring.length < leastThen) {
                days |= 1 << day;
                first = day;
            }
        }
        if (what == 0) {
            return days;
        }
        return what == 1 ? first : lengthOrNone(least);
    }

    private int leastOnDay(int day) {
        int least = 0;
        for (int hour = 0; hour < HOURS; hour++) {
            least = Math.max(least, mooring.leastAt(harbour.tideOn(hour, day)));
        }
        return least;
    }

    // ---- lines that are seen to ----

    public int watch(int boat, int k) {
        if (!harbour.hasBoat(boat)) {
            return refused(NOBODY);
        }
        if (k < 1) {
            return refused(BELOW);
        }
        if (k > GREATEST_WATCH) {
            return refused(ROOM);
        }
        mooring.load(harbour, boat);
        limits.measure(mooring, harbour.tides);
        return limits.changesEach(k);
    }

    public int seldom(int boat) {
        if (!harbour.hasBoat(boat)) {
            return refused(NOBODY);
        }
        mooring.load(harbour, boat);
        limits.measure(mooring, harbour.tides);
        for (int k = GREATEST_WATCH; k >= 1; k--) {
            if (limits.changesEach(k) != NONE) {
                return k;
            }
        }
        return NONE;
    }

    public int wake(int boat, int n) {
        if (!harbour.hasBoat(boat)) {
            return refused(NOBODY);
        }
        if (n < 0) {
            return refused(BELOW);
        }
        if (n > GREATEST_WAKES) {
            return refused(ROOM);
        }
        mooring.load(harbour, boat);
        limits.measure(mooring, harbour.tides);
        return limits.mostGoodHours(n);
    }

    // ---- the image ----

    public int image() {
        taken.copyFrom(harbour);
        isTaken = true;
        return harbour.hour;
    }

    public int restore() {
        if (!isTaken) {
            return refused(STATE);
        }
        harbour.copyFrom(taken);
        paid.size = 0;
        return harbour.hour;
    }

    // ---- counts and refusals ----

    public int count(int what) {
        if (what >= FIRST_REFUSAL_COUNT && what <= LAST_REFUSAL_COUNT) {
            return refusals[what - FIRST_REFUSAL_COUNT + 1];
        }
        switch (what) {
            case 0:
                return harbour.boats;
            case 1:
                return harbour.rings;
            case 2:
                return harbour.hour;
            case 3:
                return harbour.edge;
            case 4:
                return harbour.bow;
            case 5:
                return lengthsTogether();
            case 6:
                return boatsHangingNow();
            case 7:
                return letters.size;
            case 8:
                return numbers.size;
            case 9:
                return harbour.spring;
            case 10:
                return harbour.ramps;
            case 17:
                return paid.size;
            default:
                return NONE;
        }
    }

    private int lengthsTogether() {
        int together = 0;
        for (int boat = 0; boat < harbour.boats; boat++) {
            together += harbour.boatCell(boat, LENGTH);
        }
        return together;
    }

    private int boatsHangingNow() {
        int hanging = 0;
        for (int boat = 0; boat < harbour.boats; boat++) {
            mooring.load(harbour, boat);
            if (mooring.hangs(mooring.length, harbour.tideAt(harbour.hour))) {
                hanging++;
            }
        }
        return hanging;
    }

    private int refused(int number) {
        if (-number >= 0 && -number < refusals.length) {
            refusals[-number]++;
        }
        return number;
    }

    /** For calls whose answers may be below 0 themselves. */
    private int refusedFar(int number) {
        return FAR_REFUSAL - refused(number);
    }

    private static boolean isHour(int hour) {
        return hour >= 0 && hour < HOURS;
    }

    private static boolean isOneOf(int what, int many) {
        return what >= 0 && what < many;
    }

    private boolean areTwoBoats(int one, int other) {
        return harbour.hasBoat(one) && harbour.hasBoat(other) && one != other;
    }

    private static int lengthOrNone(int line) {
        return line > GREATEST_LENGTH ? NONE : line;
    }

    /** The greatest whole number whose square is no more than this (below 128, all that is needed). */
    private static int rootWithin(int square) {
        int root = 0;
        for (int step = 64; step > 0; step /= 2) {
            if ((root + step) * (root + step) <= square) {
                root += step;
            }
        }
        return root;
    }

    /** All that THE IMAGE holds. */
    private static final class Harbour {
        private final int[] tides = new int[HOURS];
        private final int[] winds = new int[HOURS];
        private final int[] ringCells = new int[MOST_RINGS * RING_CELLS];
        private final int[] boatCells = new int[MOST_BOATS * BOAT_CELLS];
        private final int[] rampCells = new int[MOST_RAMPS * RAMP_CELLS];
        private int rings = 0;
        private int boats = 0;
        private int ramps = 0;
        private int edge = GREATEST_EDGE;
        private int bow = 2;
        private int hour = 0;
        private int spring = 0;

        Harbour() {
            Arrays.fill(tides, MEAN_TIDE);
        }

        void copyFrom(Harbour from) {
            copyCells(from.tides, tides);
            copyCells(from.winds, winds);
            copyCells(from.ringCells, ringCells);
            copyCells(from.boatCells, boatCells);
            copyCells(from.rampCells, rampCells);
            rings = from.rings;
            boats = from.boats;
            ramps = from.ramps;
            edge = from.edge;
            bow = from.bow;
            hour = from.hour;
            spring = from.spring;
        }

        private static void copyCells(int[] from, int[] to) {
            System.arraycopy(from, 0, to, 0, Math.min(from.length, to.length));
        }

        private static int cellAt(int[] cells, int index) {
            return index >= 0 && index < cells.length ? cells[index] : 0;
        }

        private static void setCell(int[] cells, int index, int v) {
            if (index >= 0 && index < cells.length) {
                cells[index] = v;
            }
        }

        int tideAt(int atHour) {
            return cellAt(tides, atHour);
        }

        int windAt(int atHour) {
            return cellAt(winds, atHour);
        }

        void setTide(int atHour, int v) {
            setCell(tides, atHour, v);
        }

        void setWind(int atHour, int v) {
            setCell(winds, atHour, v);
        }

        boolean hasRing(int ring) {
            return ring >= 0 && ring < rings;
        }

        boolean hasBoat(int boat) {
            return boat >= 0 && boat < boats;
        }

        boolean hasRamp(int ramp) {
            return ramp >= 0 && ramp < ramps;
        }

        int ringCell(int ring, int what) {
            return cellAt(ringCells, ring * RING_CELLS + what);
        }

        int boatCell(int boat, int what) {
            return cellAt(boatCells, boat * BOAT_CELLS + what);
        }

        void setBoatCell(int boat, int what, int v) {
            setCell(boatCells, boat * BOAT_CELLS + what, v);
        }

        int rampCell(int ramp, int what) {
            return cellAt(rampCells, ramp * RAMP_CELLS + what);
        }

        void addRing(int place, int height) {
            setCell(ringCells, rings * RING_CELLS + PLACE, place);
            setCell(ringCells, rings * RING_CELLS + HEIGHT, height);
            rings++;
        }

        void addRamp(int height, int wide) {
            setCell(rampCells, ramps * RAMP_CELLS + RAMP_HEIGHT, height);
            setCell(rampCells, ramps * RAMP_CELLS + RAMP_LONG, wide);
            ramps++;
        }

        int hoursUnder() {
            int bits = 0;
            for (int i = 0; i < tides.length; i++) {
                if (tides[i] + bow > edge) {
                    bits |= 1 << i;
                }
            }
            return bits;
        }

        /** The first HOUR from one on, round, at which TIDE is so many feet or more. */
        int firstHourWith(int feet, int from) {
            for (int i = 0; i < HOURS; i++) {
                int at = Math.floorMod(from + i, HOURS);
                if (tideAt(at) >= feet) {
                    return at;
                }
            }
            return NONE;
        }

        int tideOn(int atHour, int day) {
            int tide = tideAt(atHour);
            int swell = spring * Math.abs(day - MIDDLE_DAY) / MIDDLE_DAY;
            if (tide > MEAN_TIDE) {
                return Math.min(GREATEST_TIDE, tide + swell);
            }
            return tide < MEAN_TIDE ? Math.max(0, tide - swell) : tide;
        }

        int slopeOf(int height, int wide, int atHour) {
            return wide < 1 ? 0 : 100 * Math.abs(tideAt(atHour) - height) / wide;
        }

        int hoursOpen(int height, int wide, int slope) {
            int bits = 0;
            for (int i = 0; i < HOURS; i++) {
                if (slopeOf(height, wide, i) <= slope) {
                    bits |= 1 << i;
                }
            }
            return bits;
        }
    }

    /** One boat's line under question: its LENGTH, RING and KIND can be tried without being changed. */
    private static final class Mooring {
        private int kind = TIE;
        private int figure = 0;
        private int place = 0;
        private int height = 0;
        private int otherPlace = 0;
        private int length = 0;
        private int wide = 0;
        private int far = 0;
        private int bow = 0;

        Mooring() {
        }

        void load(Harbour harbour, int boat) {
            kind = harbour.boatCell(boat, KIND);
            figure = harbour.boatCell(boat, FIGURE);
            moveTo(harbour, harbour.boatCell(boat, RING));
            otherPlace = harbour.ringCell(harbour.boatCell(boat, OTHER_RING), PLACE);
            length = harbour.boatCell(boat, LENGTH);
            wide = harbour.boatCell(boat, LONG);
            far = harbour.boatCell(boat, FAR);
            bow = harbour.bow;
        }

        void moveTo(Harbour harbour, int ring) {
            place = harbour.ringCell(ring, PLACE);
            height = harbour.ringCell(ring, HEIGHT);
        }

        int squareNeeded(int tide) {
            int drop = Math.abs(height - tide - bow);
            int straight = drop * drop;
            switch (kind) {
                case TWO:
                    return straight + halfApartSquare();
                case POLE:
                    return tide + bow <= height ? 0 : straight;
                case ROW:
                    return straight + halfApartSquare() + figure * figure;
                case LEGS:
                    return tide <= figure ? 0 : straight;
                default:
                    return straight;
            }
        }

        private int halfApartSquare() {
            int half = (place - otherPlace) / 2;
            return half * half;
        }

        /** The least line with which it does not HANG at a TIDE. */
        int leastAt(int tide) {
            int square = squareNeeded(tide);
            int root = rootWithin(square);
            return root * root < square ? root + 1 : root;
        }

        int leastFor(int[] tides) {
            int least = 0;
            for (int i = 0; i < tides.length; i++) {
                least = Math.max(least, leastAt(tides[i]));
            }
            return least;
        }

        boolean hangs(int line, int tide) {
            return line * line < squareNeeded(tide);
        }

        int hangingWith(int line, int[] tides) {
            int bits = 0;
            for (int i = 0; i < tides.length; i++) {
                if (hangs(line, tides[i])) {
                    bits |= 1 << i;
                }
            }
            return bits;
        }

        int hangingHours(int[] tides) {
            return hangingWith(length, tides);
        }

        int tooFarHours(int[] tides) {
            int bits = 0;
            for (int i = 0; i < tides.length; i++) {
                if (reach(length, tides[i]) > far) {
                    bits |= 1 << i;
                }
            }
            return bits;
        }

        /** OUT with a line at a TIDE. */
        int reach(int line, int tide) {
            int spare = line * line - squareNeeded(tide);
            if (spare < 0) {
                return 0;
            }
            int root = rootWithin(spare);
            switch (kind) {
                case TWO:
                case ROW:
                    return root / 2;
                case WEIGHT:
                    return 3 * root / 4;
                case POLE:
                    return Math.min(root, figure);
                case LEGS:
                    return tide <= figure ? 0 : 3 * root / 4;
                default:
                    return root;
            }
        }

        /** The greatest line with which OUT is not above FAR at a TIDE: OUT never falls as a line grows. */
        int greatestAt(int tide) {
            int greatest = 0;
            for (int step = 64; step > 0; step /= 2) {
                int line = greatest + step;
                if (line <= GREATEST_LENGTH && reach(line, tide) <= far) {
                    greatest = line;
                }
            }
            return greatest;
        }

        int stillMiddle() {
            return kind == TWO || kind == ROW ? (place + otherPlace) / 2 : place;
        }

        int blownMiddle(int tide, int wind) {
            int reach = reach(length, tide);
            return stillMiddle() + Math.max(-reach, Math.min(reach, wind));
        }

        /** The HOURS of TOUCH with another one, each with a line. */
        int touching(int line, Mooring other, int otherLine, int[] tides) {
            int bits = 0;
            for (int i = 0; i < tides.length; i++) {
                if (touchesAt(line, other, otherLine, tides[i])) {
                    bits |= 1 << i;
                }
            }
            return bits;
        }

        private boolean touchesAt(int line, Mooring other, int otherLine, int tide) {
            if (hangs(line, tide) || other.hangs(otherLine, tide)) {
                return false;
            }
            int reach = reach(line, tide);
            int otherReach = other.reach(otherLine, tide);
            int middle = stillMiddle();
            int otherMiddle = other.stillMiddle();
            return middle - reach <= otherMiddle + otherReach + other.wide
                    && otherMiddle - otherReach <= middle + reach + wide;
        }
    }

    /** The good LENGTHS of a boat, HOUR by HOUR: from a least to a greatest one, none if they cross. */
    private static final class Limits {
        private final int[] least = new int[HOURS];
        private final int[] greatest = new int[HOURS];
        private final int[] kept = new int[(GREATEST_WAKES + 1) * (GREATEST_LENGTH + 1)];
        private final int[] best = new int[GREATEST_WAKES + 1];

        Limits() {
        }

        void measure(Mooring mooring, int[] tides) {
            for (int hour = 0; hour < HOURS && hour < tides.length; hour++) {
                least[hour] = mooring.leastAt(tides[hour]);
                greatest[hour] = mooring.greatestAt(tides[hour]);
            }
        }

        int leastAllDay() {
            return leastFrom(0, HOURS);
        }

        int greatestAllDay() {
            return greatestFrom(0, HOURS);
        }

        private int leastFrom(int from, int end) {
            int all = 0;
            for (int hour = Math.max(0, from); hour < end && hour < HOURS; hour++) {
                all = Math.max(all, least[hour]);
            }
            return all;
        }

        private int greatestFrom(int from, int end) {
            int all = GREATEST_LENGTH;
            for (int hour = Math.max(0, from); hour < end && hour < HOURS; hour++) {
                all = Math.min(all, greatest[hour]);
            }
            return all;
        }

        /** TENDED: a line is held as long as any one is good for all HOURS since it was changed. */
        int hoursChanged() {
            int changed = 0;
            int since = 0;
            for (int hour = 0; hour < HOURS; hour++) {
                if (least[hour] > greatest[hour]) {
                    return NONE;
                }
                if (leastFrom(since, hour + 1) > greatestFrom(since, hour + 1)) {
                    changed |= 1 << hour;
                    since = hour;
                }
            }
            return changed;
        }

        /** WATCH each k HOURS. */
        int changesEach(int k) {
            int changes = 0;
            int held = 0;
            for (int from = 0; from < HOURS; from += Math.max(1, k)) {
                int line = leastFrom(from, from + k);
                if (line > greatestFrom(from, from + k)) {
                    return NONE;
                }
                if (from > 0 && line != held) {
                    changes++;
                }
                held = line;
            }
            return changes;
        }

        /** WAKE: for each LENGTH and each number of wakings, the most good HOURS until now. */
        int mostGoodHours(int wakes) {
            Arrays.fill(kept, 0);
            Arrays.fill(best, 0);
            int most = Math.max(0, Math.min(wakes, GREATEST_WAKES));
            for (int hour = 0; hour < HOURS; hour++) {
                // Falling, for a waking starts from the best of the HOUR ahead with one waking less.
                for (int used = most; used >= 0; used--) {
                    keepHour(hour, used, used > 0 ? best[used - 1] : 0);
                }
                for (int used = 0; used <= most; used++) {
                    best[used] = bestKept(used);
                }
            }
            return best[most];
        }

        private void keepHour(int hour, int used, int woken) {
            for (int line = 0; line <= GREATEST_LENGTH; line++) {
                int cell = used * (GREATEST_LENGTH + 1) + line;
                int good = least[hour] <= line && line <= greatest[hour] ? 1 : 0;
                kept[cell] = Math.max(kept[cell], woken) + good;
            }
        }

        private int bestKept(int used) {
            int all = 0;
            for (int line = 0; line <= GREATEST_LENGTH; line++) {
                all = Math.max(all, kept[used * (GREATEST_LENGTH + 1) + line]);
            }
            return all;
        }
    }

    /** Boats to rings of their own at the least cost; of those ways the first one. */
    private static final class Berthing {
        private static final int NEVER = 1000000;
        private static final int WAYS_USED = 1 << MOST_RINGS;
        private static final int NO_RING = 9;

        private final int[] cost = new int[MOST_BOATS * MOST_RINGS];
        private final int[] best = new int[(MOST_BOATS + 1) * WAYS_USED];
        private int boats = 0;
        private int rings = 0;
        private int costOfNone = 0;

        Berthing() {
        }

        void setCost(int boat, int ring, int v) {
            int cell = boat * MOST_RINGS + ring;
            if (cell >= 0 && cell < cost.length) {
                cost[cell] = v;
            }
        }

        /** Finds what the boats from each one on cost at least, whichever RINGS are taken ahead. */
        void solve(int manyBoats, int manyRings, int none) {
            boats = Math.max(0, Math.min(manyBoats, MOST_BOATS));
            rings = Math.max(0, Math.min(manyRings, MOST_RINGS));
            costOfNone = none;
            for (int used = 0; used < WAYS_USED; used++) {
                best[boats * WAYS_USED + used] = 0;
            }
            for (int boat = boats - 1; boat >= 0; boat--) {
                for (int used = 0; used < WAYS_USED; used++) {
                    best[boat * WAYS_USED + used] = leastFor(boat, used);
                }
            }
        }

        private int leastFor(int boat, int used) {
            int all = costWith(boat, used, rings);
            for (int ring = 0; ring < rings; ring++) {
                all = Math.min(all, costWith(boat, used, ring));
            }
            return all;
        }

        /** The cost from a boat on with it at this RING; behind the last RING it has none. */
        private int costWith(int boat, int used, int ring) {
            int next = (boat + 1) * WAYS_USED;
            if (ring >= rings) {
                return costOfNone + best[next + used];
            }
            if ((used & 1 << ring) != 0) {
                return NEVER;
            }
            return cost[boat * MOST_RINGS + ring] + best[next + (used | 1 << ring)];
        }

        int leastCost() {
            return best[0];
        }

        int ringDigits() {
            int digits = 0;
            int tens = 1;
            int used = 0;
            for (int boat = 0; boat < boats; boat++) {
                int ring = firstBest(boat, used);
                digits += tens * (ring < rings ? ring : NO_RING);
                tens *= 10;
                used |= ring < rings ? 1 << ring : 0;
            }
            return digits;
        }

        private int firstBest(int boat, int used) {
            for (int ring = 0; ring < rings; ring++) {
                if (costWith(boat, used, ring) == best[boat * WAYS_USED + used]) {
                    return ring;
                }
            }
            return rings;
        }
    }

    /** TWO SKIPPERS: what each pair of LENGTHS near their own is worth to each of them. */
    private static final class Choices {
        private final int[] worth = new int[SKIPPERS_CHOICES * SKIPPERS_CHOICES];
        private final int[] otherWorth = new int[SKIPPERS_CHOICES * SKIPPERS_CHOICES];
        private int least = 0;
        private int greatest = 0;
        private int otherLeast = 0;
        private int otherGreatest = 0;
        private int settled = NONE;

        Choices() {
        }

        void weigh(Mooring one, Mooring other, int[] tides) {
            least = Math.max(0, one.length - SKIPPERS_SPAN);
            greatest = Math.min(GREATEST_LENGTH, one.length + SKIPPERS_SPAN);
            otherLeast = Math.max(0, other.length - SKIPPERS_SPAN);
            otherGreatest = Math.min(GREATEST_LENGTH, other.length + SKIPPERS_SPAN);
            for (int line = least; line <= greatest; line++) {
                for (int otherLine = otherLeast; otherLine <= otherGreatest; otherLine++) {
                    int cost = TOUCH_COST * Integer.bitCount(one.touching(line, other, otherLine, tides));
                    int pair = pairOf(line, otherLine);
                    worth[pair] = worthAlone(one, line, tides) - cost;
                    otherWorth[pair] = worthAlone(other, otherLine, tides) - cost;
                }
            }
            settled = firstSettled();
        }

        private static int worthAlone(Mooring mooring, int line, int[] tides) {
            int together = -HANGING_COST * Integer.bitCount(mooring.hangingWith(line, tides));
            for (int i = 0; i < tides.length; i++) {
                together += mooring.reach(line, tides[i]);
            }
            return together;
        }

        /** The cell of a pair of LENGTHS; a stranger's is the first one. */
        private int pairOf(int line, int otherLine) {
            int pair = (line - least) * SKIPPERS_CHOICES + otherLine - otherLeast;
            return pair >= 0 && pair < worth.length ? pair : 0;
        }

        private int firstSettled() {
            for (int line = least; line <= greatest; line++) {
                for (int otherLine = otherLeast; otherLine <= otherGreatest; otherLine++) {
                    if (isSettled(line, otherLine)) {
                        return pairOf(line, otherLine);
                    }
                }
            }
            return NONE;
        }

        private boolean isSettled(int line, int otherLine) {
            int pair = pairOf(line, otherLine);
            for (int choice = least; choice <= greatest; choice++) {
                if (worth[pairOf(choice, otherLine)] > worth[pair]) {
                    return false;
                }
            }
            for (int choice = otherLeast; choice <= otherGreatest; choice++) {
                if (otherWorth[pairOf(line, choice)] > otherWorth[pair]) {
                    return false;
                }
            }
            return true;
        }

        int firstLength() {
            return settled == NONE ? NONE : least + settled / SKIPPERS_CHOICES;
        }

        int otherLength() {
            return settled == NONE ? NONE : otherLeast + settled % SKIPPERS_CHOICES;
        }
    }

    /** The letters that were fed, and what they tell of a QUAY. */
    private static final class Letters {
        private static final char DIGIT = '#';
        private static final char SIGN = '+';

        private final int[] letters = new int[MOST_LETTERS];
        private int size = 0;

        Letters() {
        }

        void append(int letter) {
            if (size >= 0 && size < letters.length) {
                letters[size] = letter;
                size++;
            }
        }

        private int letterAt(int index) {
            return index >= 0 && index < size && index < letters.length ? letters[index] : 0;
        }

        /** What comes behind the first letter of a statement; nothing, if none begins with it. */
        private static String shapeOf(int letter) {
            switch (letter) {
                case 't':
                case 'r':
                    return "####;";
                case 'w':
                    return "##+#;";
                case 'b':
                    return "##########;";
                case 'l':
                    return "###;";
                case 'e':
                    return "##;";
                default:
                    return "";
            }
        }

        private static boolean fits(String shape, int index, int letter) {
            if (index < 0 || index >= shape.length()) {
                return false;
            }
            char wanted = shape.charAt(index);
            if (wanted == DIGIT) {
                return letter >= '0' && letter <= '9';
            }
            return wanted == SIGN ? letter == '+' || letter == '-' : letter == wanted;
        }

        /** The place of the first letter with which no QUAY can go on, or NONE. */
        int strangePlace() {
            int start = 0;
            for (int at = 0; at < size; at++) {
                String shape = shapeOf(letterAt(start));
                boolean isFit = at == start ? !shape.isEmpty() : fits(shape, at - start - 1, letterAt(at));
                if (!isFit) {
                    return at;
                }
                if (at - start == shape.length()) {
                    start = at + 1;
                }
            }
            return size == 0 || start < size ? size : NONE;
        }

        int statementSize(int start) {
            return 1 + shapeOf(letterAt(start)).length();
        }

        private int numberAt(int index, int digits) {
            int number = 0;
            for (int i = 0; i < digits; i++) {
                number = number * 10 + letterAt(index + i) - '0';
            }
            return number;
        }

        /** Tells a harbour the statement that starts here; false if it is not as it must be. */
        boolean tellStatement(int start, Harbour harbour) {
            switch (letterAt(start)) {
                case 't':
                    return tellTide(start + 1, harbour);
                case 'w':
                    return tellWind(start + 1, harbour);
                case 'r':
                    return tellRing(start + 1, harbour);
                case 'b':
                    return tellBoat(start + 1, harbour);
                case 'l':
                    return tellLength(start + 1, harbour);
                default:
                    return tellEdge(start + 1, harbour);
            }
        }

        private boolean tellTide(int from, Harbour harbour) {
            int hour = numberAt(from, 2);
            int tide = numberAt(from + 2, 2);
            if (!isHour(hour) || tide > GREATEST_TIDE) {
                return false;
            }
            harbour.setTide(hour, tide);
            return true;
        }

        private boolean tellWind(int from, Harbour harbour) {
            int hour = numberAt(from, 2);
            int wind = numberAt(from + 3, 1);
            if (!isHour(hour)) {
                return false;
            }
            harbour.setWind(hour, letterAt(from + 2) == '-' ? -wind : wind);
            return true;
        }

        private boolean tellRing(int from, Harbour harbour) {
            int height = numberAt(from + 2, 2);
            if (harbour.rings >= MOST_RINGS || height > GREATEST_HEIGHT) {
                return false;
            }
            harbour.addRing(numberAt(from, 2), height);
            return true;
        }

        private boolean tellBoat(int from, Harbour harbour) {
            int kind = numberAt(from, 1);
            int ring = numberAt(from + 2, 1);
            int otherRing = numberAt(from + 3, 1);
            int wide = numberAt(from + 6, 2);
            if (harbour.boats >= MOST_BOATS || kind >= KINDS || !harbour.hasRing(ring)
                    || !harbour.hasRing(otherRing) || wide < 1 || wide > GREATEST_LONG) {
                return false;
            }
            int boat = harbour.boats;
            harbour.boats++;
            harbour.setBoatCell(boat, KIND, kind);
            harbour.setBoatCell(boat, FIGURE, numberAt(from + 1, 1));
            harbour.setBoatCell(boat, RING, ring);
            harbour.setBoatCell(boat, OTHER_RING, otherRing);
            harbour.setBoatCell(boat, LENGTH, numberAt(from + 4, 2));
            harbour.setBoatCell(boat, LONG, wide);
            harbour.setBoatCell(boat, FAR, numberAt(from + 8, 2));
            return true;
        }

        private boolean tellLength(int from, Harbour harbour) {
            int boat = numberAt(from, 1);
            if (!harbour.hasBoat(boat)) {
                return false;
            }
            harbour.setBoatCell(boat, LENGTH, numberAt(from + 1, 2));
            return true;
        }

        private boolean tellEdge(int from, Harbour harbour) {
            int edge = numberAt(from, 2);
            if (edge > GREATEST_EDGE) {
                return false;
            }
            harbour.edge = edge;
            return true;
        }
    }

    /** The ROW of numbers. */
    private static final class Numbers {
        private final int[] cells = new int[MOST_NUMBERS];
        private int size = 0;

        Numbers() {
        }

        void append(int v) {
            if (size >= 0 && size < cells.length) {
                cells[size] = v;
                size++;
            }
        }

        int at(int index) {
            return index >= 0 && index < size && index < cells.length ? cells[index] : 0;
        }

        /** The greatest number; below 0 if there is none. */
        int greatest() {
            int all = NONE;
            for (int i = 0; i < size; i++) {
                all = Math.max(all, at(i));
            }
            return all;
        }
    }

    /** LENGTHS that can be taken BACK, the latest last. */
    private static final class PaidLengths {
        private final int[] boats = new int[MOST_PAID];
        private final int[] lengths = new int[MOST_PAID];
        private int size = 0;

        PaidLengths() {
        }

        void push(int boat, int was) {
            if (size >= MOST_PAID) {
                System.arraycopy(boats, 1, boats, 0, MOST_PAID - 1);
                System.arraycopy(lengths, 1, lengths, 0, MOST_PAID - 1);
                size = MOST_PAID - 1;
            }
            if (size >= 0 && size < boats.length && size < lengths.length) {
                boats[size] = boat;
                lengths[size] = was;
                size++;
            }
        }

        int lastBoat() {
            return size >= 1 && size <= boats.length ? boats[size - 1] : 0;
        }

        int lastLength() {
            return size >= 1 && size <= lengths.length ? lengths[size - 1] : 0;
        }
    }
}
