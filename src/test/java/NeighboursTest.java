/** Promises 19, 20, 22, 47 and 49: boats beside one another. */
public final class NeighboursTest {
    public static void main(String[] arguments) {
        touch();
        clear();
        alongside();
        crossed();
        skippers();
        skippersToTheFoot();
        refusals();
        Check.finish();
    }

    /** Rings at the height of the bow, but at hour 3: there OUT is LENGTH, and all hang at 3. */
    private static HangsAtLowWater neighbours() {
        return Check.told("r1022;r3022;r0022;b0000050399;b0111120399;b0222020399;", "t0300;");
    }

    private static HangsAtLowWater three(int a, int b, int c) {
        HangsAtLowWater x = neighbours();
        x.row(a);
        x.row(b);
        x.row(c);
        return x;
    }

    private static void touch() {
        HangsAtLowWater x = neighbours();
        Check.due("one foot together", x.touch(0, 1), 4095 - 8);
        Check.due("the other way round", x.touch(1, 0), 4095 - 8);
        x.pay(1, 11);
        Check.due("no foot together", x.touch(0, 1), 0);
        Check.due("one foot together at the other end", x.touch(0, 2), 4095 - 8);
        x.pay(2, 1);
        Check.due("no foot together at the other end", x.touch(0, 2), 0);
        x.tie(2, 0);
        Check.due("one within the other", x.touch(0, 2), 4095 - 8);
        Check.due("one around the other", x.touch(2, 0), 4095 - 8);
        x.pay(0, 20);
        Check.due("only one hangs", x.touch(0, 2), 4095 - 8);
        x.pay(2, 20);
        Check.due("none hangs", x.touch(0, 2), 4095);
    }

    private static void clear() {
        HangsAtLowWater x = neighbours();
        Check.due("least with which it never hangs", x.clear(0, 1), 20);
        x.rises(3, 19);
        Check.due("clear(0, 1)", x.clear(0, 1), 1);
        Check.due("clear(1, 0)", x.clear(1, 0), 1);
        Check.due("lengths stay", x.count(5), 19);
        x.tie(1, 0);
        Check.due("always beside", x.clear(0, 1), 1);
        x.rises(3, 20);
        Check.due("no line", x.clear(0, 1), 0);
    }

    private static void alongside(int a, int b, int c, int moves, int order) {
        HangsAtLowWater x = three(a, b, c);
        String row = "alongside by " + a + " " + b + " " + c;
        Check.due(row + ": moves", x.alongside(0), moves);
        Check.due(row + ": fewest", x.alongside(1), 0);
        Check.due(row + ": best order", x.alongside(2), order);
        Check.due(row + ": the row stays", x.count(8), 3);
    }

    private static void alongside() {
        alongside(5, 3, 12, 2, 102);
        alongside(4, 4, 4, 0, 210);
        alongside(12, 12, 12, 0, 210);
        alongside(0, 1, 2, 3, 12);
        alongside(2, 1, 0, 0, 210);
        alongside(0, 11, 11, 2, 21);
        alongside(12, 0, 12, 1, 120);
        HangsAtLowWater one = Check.told("r1022;b0000050399;");
        one.row(0);
        Check.due("alone: moves", one.alongside(0), 0);
        Check.due("alone: order", one.alongside(2), 0);
    }

    private static void crossed() {
        HangsAtLowWater x = Check.told("r2022;r2322;r9022;b3500991099;b0111001099;b1002991099;",
                "w00+9;w01-9;w02+3;w03+2;w04+4;");
        // Without wind the two lines lie at 55, beyond the tie at 23; the pole is at 20.
        Check.due("no wind", x.crossed(5), 1);
        Check.due("wind: pole at 25, tie at 23, two lines at 59", x.crossed(0), 2);
        Check.due("wind the other way", x.crossed(1), 1);
        Check.due("wind: pole at 23 as the tie", x.crossed(2), 1);
        Check.due("wind: pole at 22", x.crossed(3), 1);
        Check.due("wind: pole at 24", x.crossed(4), 2);
        Check.due("no boats", new HangsAtLowWater().crossed(0), 0);
        HangsAtLowWater y = Check.told("r2322;r2022;b0100001099;b3511991099;b3011991099;", "w00+3;w01+4;");
        Check.due("the farther one first, middles alike", y.crossed(0), 0);
        Check.due("the farther one first", y.crossed(1), 1);
        y.tie(1, 0);
        y.tie(2, 0);
        Check.due("all at one ring", y.crossed(1), 0);
    }

    private static void skippers(HangsAtLowWater x, String which, int first, int other) {
        Check.due(which + ": the first one's", x.skippers(0, 1, 0), first);
        Check.due(which + ": the other's", x.skippers(0, 1, 1), other);
    }

    private static void skippers() {
        // They touch from 17 feet together on: a foot is worth 12, a touch all day costs 600.
        HangsAtLowWater x = Check.told("r1022;r3022;b0000080399;b0110080399;");
        skippers(x, "16 feet together", 6, 10);
        x.pay(0, 10);
        x.pay(1, 10);
        skippers(x, "16 feet together at the least", 8, 8);
        x.pay(0, 5);
        x.pay(1, 5);
        skippers(x, "far from one another", 7, 7);
        x.pay(0, 1);
        x.pay(1, 0);
        skippers(x, "short lines", 3, 2);
        x.pay(0, 0);
        x.pay(1, 17);
        skippers(x, "the first one's 0", 0, 16);
        x.pay(0, 18);
        x.pay(1, 0);
        skippers(x, "the other's 0", 16, 0);
        x.pay(0, 98);
        x.pay(1, 99);
        skippers(x, "long lines touch anyway", 99, 99);
        Check.due("lengths stay", x.count(5), 197);
        // Two feet short of 20, hanging costs 99 an hour: all go to where they hang at no hour.
        HangsAtLowWater y = Check.told("r1040;r9940;b0000160399;b0110170399;");
        skippers(y, "18 feet are enough", 18, 19);
    }

    private static HangsAtLowWater twoTides(String boats, int early, int many, int late) {
        HangsAtLowWater x = Check.told(boats);
        for (int hour = 0; hour < 12; hour++) {
            x.rises(hour, hour < many ? early : late);
        }
        return x;
    }

    /** Each of these would be settled otherwise, if a TOUCH or an HOUR of hanging cost a foot more or less. */
    private static void skippersToTheFoot() {
        skippers(twoTides("r9754;r4743;b0000460999;b0110270699;", 20, 1, 38), "a touch costs no more", 48, 29);
        skippers(twoTides("r8659;r5414;b0000501999;b0110210399;", 8, 10, 9), "a touch costs no less", 49, 20);
        skippers(twoTides("r5921;r2454;b0000030899;b0110430699;", 19, 6, 24), "hanging costs no more", 4, 41);
        skippers(twoTides("r9537;r5914;b0000070999;b0110311399;", 26, 6, 39), "hanging costs no less", 9, 30);
    }

    private static void refusals() {
        Check.refused(NeighboursTest::neighbours, "touch(0, 0)", -1, x -> x.touch(0, 0));
        Check.refused(NeighboursTest::neighbours, "touch(0, 3)", -1, x -> x.touch(0, 3));
        Check.refused(NeighboursTest::neighbours, "touch(-1, 0)", -1, x -> x.touch(-1, 0));
        Check.refused(NeighboursTest::neighbours, "clear(1, 1)", -1, x -> x.clear(1, 1));
        Check.refused(NeighboursTest::neighbours, "clear(3, 0)", -1, x -> x.clear(3, 0));
        Check.refused(NeighboursTest::neighbours, "clear(0, -1)", -1, x -> x.clear(0, -1));
        Check.refused(NeighboursTest::neighbours, "alongside(3)", -2, x -> x.alongside(3));
        Check.refused(NeighboursTest::neighbours, "alongside(-1)", -2, x -> x.alongside(-1));
        Check.refused(NeighboursTest::neighbours, "no row", -3, x -> x.alongside(0));
        Check.refused(HangsAtLowWater::new, "no boats", -3, x -> x.alongside(0));
        Check.refused(() -> three(0, 1, 13), "one above 12", -3, x -> x.alongside(0));
        HangsAtLowWater four = three(0, 1, 2);
        four.row(3);
        Check.due("a row too long", four.alongside(2), -3);
        Check.refused(NeighboursTest::neighbours, "crossed(12)", -1, x -> x.crossed(12));
        Check.refused(NeighboursTest::neighbours, "crossed(-1)", -1, x -> x.crossed(-1));
        Check.refused(NeighboursTest::neighbours, "skippers(0, 0, 2)", -1, x -> x.skippers(0, 0, 2));
        Check.refused(NeighboursTest::neighbours, "skippers(0, 3, 0)", -1, x -> x.skippers(0, 3, 0));
        Check.refused(NeighboursTest::neighbours, "skippers(0, 1, 2)", -2, x -> x.skippers(0, 1, 2));
        Check.refused(NeighboursTest::neighbours, "skippers(0, 1, -1)", -2, x -> x.skippers(0, 1, -1));
    }
}
