/** Promises 25, 27 to 31, 46 and 48: which ring for which boat, marks, whose line, the row. */
public final class RingsTest {
    public static void main(String[] arguments) {
        berths();
        cheapest();
        marks();
        whose();
        hung();
        row();
        judge();
        refusals();
        Check.finish();
    }

    /** A TIE of 20 feet, a WEIGHT of 33 and a TIE of 27 at rings 40 and 38 feet high. */
    private static HangsAtLowWater hanging() {
        return Check.told("t0005;t0138;t0612;r2040;r6038;", "b0000201020;b2000331020;b0000271020;");
    }

    private static void berths(HangsAtLowWater x, String which, int many, int rings) {
        Check.due(which + ": how many", x.berths(0), many);
        Check.due(which + ": rings", x.berths(1), rings);
    }

    private static void berths() {
        HangsAtLowWater x = Check.told("r2022;b0000051099;b0000051099;");
        berths(x, "one ring for two", 1, 90);
        berths(Check.told("r2022;b0000051004;b0000051099;"), "one ring, the first too far", 1, 9);
        berths(Check.told("r2022;b0000051004;b0000051004;"), "one ring, both too far", 0, 90);
        berths(Check.told("r2022;r3040;b0000051005;b0000181099;"), "a ring for each", 2, 10);
        berths(Check.told("r2022;r3040;b0000181099;b0000051005;"), "the other way round", 2, 1);
        // The second ring stays: at ring 1 its lines are together, at ring 0 they are 10 apart.
        berths(Check.told("r2022;r4022;b1001091099;"), "two lines", 1, 1);
        Check.due("the boats stay", x.boat(1, 2), 0);
        x.set(0, 21);
        berths(x, "under an edge", 0, 90);
        HangsAtLowWater five = Check.told("r2022;r2122;r2222;r2322;r2422;r2522;", "b0000051099;".repeat(5));
        berths(five, "five at six", 5, 43210);
        five.tie(0, 5);
        berths(five, "five at six, wherever they are", 5, 43210);
    }

    private static void cheapest(HangsAtLowWater x, String which, int lengths, int rings) {
        Check.due(which + ": lengths", x.cheapest(0), lengths);
        Check.due(which + ": rings", x.cheapest(1), rings);
    }

    private static void cheapest() {
        cheapest(Check.told("r2022;r2030;b0000051099;b0000051099;"), "two ties", 8, 10);
        cheapest(Check.told("r2022;r2030;b3000051099;b0000051099;"), "a pole and a tie", 0, 1);
        cheapest(Check.told("r2022;b0000051099;b0000051099;"), "one ring for two", -9, -9);
        cheapest(Check.told("r2030;r4022;r9930;b1001051099;"), "two lines", 0, 1);
        cheapest(Check.told("r2030;r2031;r2029;b0000991000;b0000991000;"), "three rings for two", 15, 20);
        HangsAtLowWater x = Check.told("r2060;r4060;b0000051099;", "t0500;");
        cheapest(x, "at low water", 58, 0);
        Check.due("its length stays", x.boat(0, 4), 5);
    }

    private static void marks() {
        HangsAtLowWater x = hanging();
        int[][] marks = {{1, 7, 26}, {65, 8, 18}, {0, 67, 33}, {4093, 18, 0}, {2, 0, -9}, {4095, 0, -9}};
        for (int[] mark : marks) {
            Check.due("marks(0, " + mark[0] + ", 0)", x.marks(0, mark[0], 0), mark[1]);
            Check.due("marks(0, " + mark[0] + ", 1)", x.marks(0, mark[0], 1), mark[2]);
        }
        Check.due("its length stays", x.boat(0, 4), 20);
    }

    private static void whose() {
        HangsAtLowWater x = hanging();
        Check.due("whose(65)", x.whose(65), 1);
        Check.due("whose(0)", x.whose(0), 2);
        Check.due("whose(1)", x.whose(1), 4);
        Check.due("whose(2)", x.whose(2), 0);
        x.pay(0, 26);
        Check.due("whose(1) of two", x.whose(1), 5);
        x.pay(0, 17);
        Check.due("whose(4093)", x.whose(4093), 1);
        Check.due("whose(4095)", x.whose(4095), 0);
        Check.due("no boats", new HangsAtLowWater().whose(0), 0);
    }

    private static void hung() {
        HangsAtLowWater x = hanging();
        int[][] marks = {{1, 14, 26}, {0, 136, 33}, {4093, 32, 0}, {4095, 2, 100}, {2, 0, -9}};
        for (int[] mark : marks) {
            Check.due("hung(0, " + mark[0] + ", 0)", x.hung(0, mark[0], 0), mark[1]);
            Check.due("hung(0, " + mark[0] + ", 1)", x.hung(0, mark[0], 1), mark[2]);
        }
        Check.due("its ring stays", x.boat(0, 2), 0);
        Check.due("its length stays", x.boat(0, 4), 20);
    }

    private static void row() {
        HangsAtLowWater x = hanging();
        Check.due("drop() of none", x.drop(), 0);
        for (int i = 1; i <= 12; i++) {
            Check.due("row() number " + i, x.row(i == 1 ? 0 : 99), i);
        }
        Check.due("count(8)", x.count(8), 12);
        Check.due("a thirteenth", x.row(0), -6);
        Check.due("below, when full", x.row(-1), -4);
        Check.due("drop()", x.drop(), 12);
        Check.due("count(8) then", x.count(8), 0);
        Check.due("row() then", x.row(5), 1);
        Check.refused(RingsTest::hanging, "row(-1)", -4, y -> y.row(-1));
        Check.refused(RingsTest::hanging, "row(100)", -6, y -> y.row(100));
    }

    private static void judged(HangsAtLowWater x, String which, int want, int... row) {
        for (int v : row) {
            x.row(v);
        }
        Check.due(which, x.judge(0), want);
        Check.due(which + ": the row has none then", x.count(8), 0);
    }

    private static void judge() {
        HangsAtLowWater x = hanging();
        x.pay(0, 40);
        judged(x, "all so", -9, 22, 40, 35);
        judged(x, "the first not so", 0, 21, 41, 35);
        judged(x, "the second not so", 1, 22, 41, 36);
        judged(x, "none", -9);
        judged(x, "all day", -9, 22, 40, 35, 35, 35, 35, 30, 35, 35, 35, 35, 35);
        x.hour();
        judged(x, "from hour 1 on", -9, 40, 35);
        judged(x, "from hour 1 on, the second not so", 1, 40, 40);
        for (int hour = 1; hour < 11; hour++) {
            x.hour();
        }
        judged(x, "from hour 11 on, round", -9, 35, 22, 40);
        judged(x, "from hour 11 on, the third not so", 2, 35, 22, 35);
        Check.refused(RingsTest::rowed, "judge(3)", -1, y -> y.judge(3));
        Check.refused(RingsTest::rowed, "judge(-1)", -1, y -> y.judge(-1));
    }

    private static HangsAtLowWater rowed() {
        HangsAtLowWater x = hanging();
        Check.due("row(1)", x.row(1), 1);
        return x;
    }

    private static void refusals() {
        Check.refused(HangsAtLowWater::new, "berths(2)", -2, x -> x.berths(2));
        Check.refused(HangsAtLowWater::new, "berths(-1)", -2, x -> x.berths(-1));
        Check.refused(HangsAtLowWater::new, "berths(0)", -3, x -> x.berths(0));
        Check.refused(RingsTest::hanging, "berths(2) with boats", -2, x -> x.berths(2));
        Check.refused(HangsAtLowWater::new, "cheapest(2)", -2, x -> x.cheapest(2));
        Check.refused(HangsAtLowWater::new, "cheapest(-1)", -2, x -> x.cheapest(-1));
        Check.refused(HangsAtLowWater::new, "cheapest(1)", -3, x -> x.cheapest(1));
        Check.refused(RingsTest::hanging, "marks(3, -1, 2)", -1, x -> x.marks(3, -1, 2));
        Check.refused(RingsTest::hanging, "marks(0, -1, 2)", -4, x -> x.marks(0, -1, 2));
        Check.refused(RingsTest::hanging, "marks(0, 4096, 2)", -6, x -> x.marks(0, 4096, 2));
        Check.refused(RingsTest::hanging, "marks(0, 4095, 2)", -2, x -> x.marks(0, 4095, 2));
        Check.refused(RingsTest::hanging, "marks(0, 0, -1)", -2, x -> x.marks(0, 0, -1));
        Check.refused(RingsTest::hanging, "whose(-1)", -4, x -> x.whose(-1));
        Check.refused(RingsTest::hanging, "whose(4096)", -6, x -> x.whose(4096));
        Check.refused(RingsTest::hanging, "hung(3, -1, 2)", -1, x -> x.hung(3, -1, 2));
        Check.refused(RingsTest::hanging, "hung(0, -1, 2)", -4, x -> x.hung(0, -1, 2));
        Check.refused(RingsTest::hanging, "hung(0, 4096, 2)", -6, x -> x.hung(0, 4096, 2));
        Check.refused(RingsTest::hanging, "hung(0, 4095, 2)", -2, x -> x.hung(0, 4095, 2));
        Check.refused(RingsTest::hanging, "hung(0, 0, -1)", -2, x -> x.hung(0, 0, -1));
    }
}
