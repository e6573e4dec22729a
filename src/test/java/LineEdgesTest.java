/** One boat at its line, at the edges: each KIND, each LENGTH, each HOUR, where it just hangs and where not. */
public final class LineEdgesTest {
    public static void main(String[] arguments) {
        dropsEitherWay();
        halfCut();
        theMostItNeeds();
        polesJustUnder();
        legsJustAground();
        justHangs();
        eachLengthOfEachKind();
        outBySquares();
        poleByFigure();
        rowAsATwo();
        lies();
        tooFarAndUnder();
        eachLeast();
        eachGreatest();
        both();
        slackAndSaves();
        Check.finish();
    }

    /** A BOAT of a KIND and FIGURE at RING 0, the other one RING 1; its LENGTH, LONG, FAR. */
    private static HangsAtLowWater one(String rings, int kind, int figure, String numbers) {
        return Check.told(rings + "b" + kind + figure + "01" + numbers + ";");
    }

    private static void everyTide(HangsAtLowWater x, int tide) {
        for (int hour = 0; hour < 12; hour++) {
            x.rises(hour, tide);
        }
    }

    private static int root(int square) {
        return (int) Math.floor(Math.sqrt(square));
    }

    private static void dropsEitherWay() {
        HangsAtLowWater x = one("r2020;r2020;", 0, 0, "401033");
        for (int tide = 0; tide <= 40; tide++) {
            x.rises(tide % 12, tide);
            int drop = 20 - 2 - tide;
            Check.due("NEEDS at TIDE " + tide, x.needs(0, tide % 12), drop * drop);
        }
        for (int bow = 0; bow <= 9; bow++) {
            x.set(1, bow);
            x.rises(0, 15);
            Check.due("NEEDS with BOW " + bow, x.needs(0, 0), (5 - bow) * (5 - bow));
        }
    }

    /** Half of how far the RINGS are from one another: cut, and the same to either side. */
    private static void halfCut() {
        int[] halves = {0, 0, 1, 1, 2, 2, 3};
        for (int far = 0; far < halves.length; far++) {
            String rings = "r5022;r5" + far + "22;";
            HangsAtLowWater x = one(rings, 1, 3, "401033");
            HangsAtLowWater y = Check.told(rings + "b1310401033;b4310401033;");
            Check.due("two " + far + " apart", x.needs(0, 0), halves[far] * halves[far]);
            Check.due("two " + far + " apart, the other way", y.needs(0, 0), halves[far] * halves[far]);
            Check.due("row " + far + " apart, the other way", y.needs(1, 0), halves[far] * halves[far] + 9);
            Check.due("middle " + far + " apart", x.lies(0, 0, 2), 50 + far / 2);
            Check.due("middle " + far + " apart, the other way", y.lies(0, 0, 2), 50 + far / 2);
        }
        // How high the other RING is does not count, nor to the other KINDS where it is.
        HangsAtLowWater z = Check.told("r0022;r9960;b0001401033;b2001401033;b3901401033;b5001401033;b1001601033;");
        for (int boat = 0; boat < 4; boat++) {
            Check.due("the other RING of BOAT " + boat, z.needs(boat, 0), 0);
            Check.due("the MIDDLE of BOAT " + boat, z.lies(boat, 0, 2), 0);
        }
        Check.due("the other RING's HEIGHT", z.needs(4, 0), 49 * 49);
        Check.due("the middle of 0 and 99", z.lies(4, 0, 2), 49);
    }

    private static void theMostItNeeds() {
        HangsAtLowWater x = one("r0060;r9900;", 4, 9, "771033");
        x.set(1, 0);
        x.rises(11, 0);
        Check.due("the most it NEEDS", x.needs(0, 11), 3600 + 2401 + 81);
        Check.due("77 feet hang", x.hours(0, 0), 2048);
        Check.due("the greatest LEAST", x.length(0, 0), 78);
        Check.due("slack", x.slack(0), -1);
        x.pay(0, 78);
        Check.due("78 feet do not hang", x.hours(0, 0), 0);
        Check.due("slack then", x.slack(0), 0);
        Check.due("a TIE's 60 less 78", x.saves(0, 4), -18);
        Check.due("cheaper at the other RING, where its lines are together", x.cheapest(0), 22);
        x.rises(11, 40);
        x.set(1, 9);
        x.tie(0, 1);
        Check.due("a RING far below, itself the other", x.needs(0, 11), 49 * 49 + 81);
    }

    private static void polesJustUnder() {
        HangsAtLowWater x = one("r2020;r2020;", 3, 5, "401033");
        x.rises(0, 17);
        x.rises(1, 18);
        x.rises(2, 19);
        x.rises(3, 40);
        int[] needs = {0, 0, 1, 484};
        for (int hour = 0; hour < 4; hour++) {
            Check.due("pole at " + hour, x.needs(0, hour), needs[hour]);
        }
        x.rises(0, 0);
        Check.due("pole at low water", x.needs(0, 0), 0);
    }

    private static void legsJustAground() {
        for (int figure = 0; figure <= 9; figure++) {
            HangsAtLowWater x = one("r2040;r2040;", 5, figure, "501033");
            x.rises(0, figure);
            x.rises(1, figure + 1);
            int drop = 38 - figure - 1;
            Check.due("aground at " + figure + ": needs", x.needs(0, 0), 0);
            Check.due("aground at " + figure + ": out", x.out(0, 0), 0);
            Check.due("aground at " + figure + ": lies from", x.lies(0, 0, 0), 20);
            Check.due("a foot above " + figure + ": needs", x.needs(0, 1), drop * drop);
            Check.due("a foot above " + figure + ": out", x.out(0, 1), root(2500 - drop * drop) * 3 / 4);
            x.pay(0, 0);
            Check.due("aground at " + figure + ": does not hang", x.hours(0, 0), 4094);
        }
    }

    /** A square of LENGTH that is as much as NEEDS is enough, and no foot is OUT. */
    private static void justHangs() {
        for (int drop = 0; drop <= 38; drop++) {
            HangsAtLowWater x = one("r2040;r2040;", 0, 0, "001000");
            everyTide(x, 38 - drop);
            x.pay(0, drop);
            Check.due("just so long: " + drop, x.hours(0, 0), 0);
            Check.due("just so long: " + drop + ": out", x.out(0, 5), 0);
            Check.due("just so long: " + drop + ": well", x.hours(0, 3), 4095);
            Check.due("just so long: " + drop + ": slack", x.slack(0), 0);
            Check.due("just so long: " + drop + ": hanging now", x.count(6), 0);
            if (drop > 0) {
                x.pay(0, drop - 1);
                Check.due("a foot less than " + drop, x.hours(0, 0), 4095);
                Check.due("a foot less than " + drop + ": out", x.out(0, 5), 0);
                Check.due("a foot less than " + drop + ": well", x.hours(0, 3), 0);
                Check.due("a foot less than " + drop + ": hanging now", x.count(6), 1);
            }
        }
    }

    private static int outOf(int kind, int figure, int root) {
        switch (kind) {
            case 1:
            case 4:
                return root / 2;
            case 2:
            case 5:
                return root * 3 / 4;
            case 3:
                return Math.min(root, figure);
            default:
                return root;
        }
    }

    /** Where nothing is NEEDED the root is LENGTH itself, up to 99. */
    private static void eachLengthOfEachKind() {
        for (int kind = 0; kind < 6; kind++) {
            for (int length = 0; length <= 99; length++) {
                HangsAtLowWater x = one("r2022;r2022;", kind, kind == 3 ? 9 : 0, "001000");
                x.pay(0, length);
                int due = outOf(kind, 9, length);
                Check.due("KIND " + kind + " with " + length + ": out", x.out(0, 0), due);
                Check.due("KIND " + kind + " with " + length + ": too far", x.hours(0, 1), due > 0 ? 4095 : 0);
                Check.due("KIND " + kind + " with " + length + ": from", x.lies(0, 0, 0), 20 - due);
                Check.due("KIND " + kind + " with " + length + ": to", x.lies(0, 0, 1), 20 + due + 10);
            }
        }
    }

    private static void outBySquares() {
        for (int tide = 0; tide <= 40; tide++) {
            HangsAtLowWater x = one("r2040;r2040;", 0, 0, "001099");
            x.rises(7, tide);
            for (int length = 0; length <= 99; length++) {
                x.pay(0, length);
                int spare = length * length - (38 - tide) * (38 - tide);
                Check.due("out with " + length + " at TIDE " + tide, x.out(0, 7), spare < 0 ? 0 : root(spare));
            }
        }
    }

    private static void poleByFigure() {
        for (int figure = 0; figure <= 9; figure++) {
            HangsAtLowWater x = one("r2022;r2022;", 3, figure, "001099");
            for (int length = 0; length <= 12; length++) {
                x.pay(0, length);
                Check.due("a pole of " + figure + " with " + length, x.out(0, 0), Math.min(figure, length));
            }
        }
    }

    /** Half of what its own NEEDS leave: 20 squared less 6 and 9 squared is 283, 16 squared and more. */
    private static void rowAsATwo() {
        HangsAtLowWater x = one("r2022;r3222;", 4, 9, "201008");
        Check.due("row: needs", x.needs(0, 0), 36 + 81);
        Check.due("row: out", x.out(0, 0), 8);
        Check.due("row: middle", x.lies(0, 0, 2), 26);
        Check.due("row: from", x.lies(0, 0, 0), 18);
        Check.due("row: not too far", x.hours(0, 1), 0);
        x.pay(0, 10);
        Check.due("row: hangs", x.hours(0, 0), 4095);
        x.pay(0, 11);
        Check.due("row: does not hang", x.hours(0, 0), 0);
    }

    private static void lies() {
        HangsAtLowWater x = Check.told("r0022;r9922;b0001992099;b0010991999;b3500990199;",
                "w00-9;w01+9;w02-5;w03+5;w04+4;w05-4;w06+6;w07-6;");
        Check.due("the farthest from", x.lies(0, 0, 0), -99);
        Check.due("the farthest to", x.lies(1, 0, 1), 99 + 99 + 19);
        Check.due("MIDDLE below 0", x.lies(0, 0, 2), -9);
        Check.due("MIDDLE above 99", x.lies(1, 1, 2), 108);
        int[] pole = {-5, 5, -5, 5, 4, -4, 5, -5, 0};
        for (int hour = 0; hour < pole.length; hour++) {
            Check.due("the pole's MIDDLE at " + hour, x.lies(2, hour, 2), pole[hour]);
            Check.due("the pole's from at " + hour, x.lies(2, hour, 0), -5);
            Check.due("the pole's to at " + hour, x.lies(2, hour, 1), 6);
        }
        // One that hangs lies straight under: no OUT, so no WIND moves it.
        x.rises(0, 0);
        x.pay(0, 19);
        Check.due("hangs: from", x.lies(0, 0, 0), 0);
        Check.due("hangs: to", x.lies(0, 0, 1), 20);
        Check.due("hangs: MIDDLE", x.lies(0, 0, 2), 0);
    }

    private static void tooFarAndUnder() {
        for (int far = 0; far <= 98; far += 7) {
            HangsAtLowWater x = one("r2022;r2022;", 0, 0, "0010" + Check.two(far));
            x.pay(0, far);
            Check.due("as far as it may: " + far, x.hours(0, 1), 0);
            Check.due("as far as it may: well", x.hours(0, 3), 4095);
            x.pay(0, far + 1);
            Check.due("a foot farther than " + far, x.hours(0, 1), 4095);
            Check.due("a foot farther: well", x.hours(0, 3), 0);
        }
        HangsAtLowWater x = one("r2040;r2040;", 0, 0, "991099");
        for (int hour = 0; hour < 12; hour++) {
            x.rises(hour, hour == 0 ? 40 : hour == 11 ? 39 : 38);
        }
        int[] edges = {40, 41, 42, 60};
        int[] under = {2049, 1, 0, 0};
        for (int i = 0; i < edges.length; i++) {
            x.set(0, edges[i]);
            Check.due("under an EDGE of " + edges[i], x.hours(0, 2), under[i]);
            Check.due("well under an EDGE of " + edges[i], x.hours(0, 3), 4095 - under[i]);
            Check.due("both under an EDGE of " + edges[i], x.length(0, 2), under[i] != 0 ? 0 : 98);
        }
        x.set(0, 39);
        Check.due("under an EDGE of 39", x.hours(0, 2), 4095);
        x.set(1, 9);
        x.set(0, 49);
        Check.due("BOW 9 at TIDE 40 is no more than 49", x.hours(0, 2), 0);
        x.set(0, 0);
        x.set(1, 0);
        everyTide(x, 0);
        Check.due("no TIDE, no BOW, no EDGE", x.hours(0, 2), 0);
        x.rises(11, 1);
        Check.due("a foot above no EDGE", x.hours(0, 2), 2048);
    }

    /** LEAST is the worst HOUR's, the first one and the last one too. */
    private static void eachLeast() {
        for (int hour = 0; hour < 12; hour++) {
            HangsAtLowWater x = one("r2022;r2022;", 0, 0, "001099");
            Check.due("LEAST of nothing needed", x.length(0, 0), 0);
            for (int tide = 20; tide >= 0; tide--) {
                x.rises(hour, tide);
                Check.due("LEAST by " + tide + " at " + hour, x.length(0, 0), 20 - tide);
                Check.due("SLACK by " + tide + " at " + hour, x.slack(0), tide - 20);
                Check.due("CHEAPEST by " + tide + " at " + hour, x.cheapest(0), 20 - tide);
                Check.due("the FORTNIGHT's by " + tide + " at " + hour, x.fortnight(0, 2), 20 - tide);
            }
        }
        // Two of 6 and 8 need 10 just so; of 6 and 9 more than 10.
        HangsAtLowWater two = one("r2028;r3622;", 1, 0, "101099");
        Check.due("LEAST of 6 and 8", two.length(0, 0), 10);
        Check.due("SLACK of 6 and 8", two.slack(0), 0);
        HangsAtLowWater more = one("r2028;r3822;", 1, 0, "101099");
        Check.due("LEAST of 6 and 9", more.length(0, 0), 11);
        Check.due("SLACK of 6 and 9", more.slack(0), -1);
    }

    /** With nothing needed OUT is LENGTH: the greatest is FAR, at each HOUR as much as the least of them. */
    private static void eachGreatest() {
        for (int far = 0; far <= 99; far++) {
            String numbers = "0010" + Check.two(far);
            Check.due("GREATEST of a TIE by " + far, one("r2022;r2022;", 0, 0, numbers).length(0, 1), far);
            Check.due("BOTH of a TIE by " + far, one("r2022;r2022;", 0, 0, numbers).length(0, 2), far + 1);
            Check.due("GREATEST of a TWO by " + far, one("r2022;r2022;", 1, 0, numbers).length(0, 1),
                    Math.min(99, 2 * far + 1));
            Check.due("GREATEST of a WEIGHT by " + far, one("r2022;r2022;", 2, 0, numbers).length(0, 1),
                    Math.min(99, (4 * far + 3) / 3));
            Check.due("GREATEST of a POLE by " + far, one("r2022;r2022;", 3, 9, numbers).length(0, 1),
                    far < 9 ? far : 99);
        }
        for (int hour = 0; hour < 12; hour++) {
            HangsAtLowWater x = one("r2040;r2040;", 0, 0, "001020");
            everyTide(x, 20);
            x.rises(hour, 38);
            Check.due("GREATEST by HOUR " + hour, x.length(0, 1), 20);
        }
    }

    private static void both() {
        HangsAtLowWater x = one("r2040;r2040;", 0, 0, "181000");
        Check.due("one LENGTH alone", x.length(0, 2), 1);
        Check.due("LEAST", x.length(0, 0), 18);
        Check.due("GREATEST", x.length(0, 1), 18);
        x.rises(11, 19);
        Check.due("none", x.length(0, 2), 0);
        Check.due("LEAST then", x.length(0, 0), 19);
        Check.due("GREATEST then", x.length(0, 1), 18);
        HangsAtLowWater all = one("r2022;r2022;", 3, 0, "181000");
        Check.due("all hundred", all.length(0, 2), 100);
        all.set(0, 22);
        Check.due("all hundred just below the EDGE", all.length(0, 2), 100);
        all.rises(0, 21);
        Check.due("at one HOUR above the EDGE", all.length(0, 2), 0);
    }

    private static void slackAndSaves() {
        HangsAtLowWater x = one("r2040;r2040;", 0, 0, "991000");
        Check.due("SLACK of 99", x.slack(0), 81);
        x.pay(0, 0);
        Check.due("SLACK of 0", x.slack(0), -18);
        Check.due("by its own KIND", x.saves(0, 0), 0);
        Check.due("by two at one place", x.saves(0, 1), 0);
        Check.due("by a pole", x.saves(0, 3), 18);
        Check.due("by a row of 0", x.saves(0, 4), 0);
        Check.due("by legs of 0", x.saves(0, 5), 0);
        everyTide(x, 0);
        Check.due("by legs, always aground", x.saves(0, 5), 38);
        HangsAtLowWater y = one("r0002;r9902;", 3, 9, "991000");
        y.set(1, 0);
        everyTide(y, 2);
        int[] saves = {0, -49, 0, 0, -50, 0};
        for (int kind = 0; kind < 6; kind++) {
            Check.due("by KIND " + kind, y.saves(0, kind), saves[kind]);
        }
        Check.due("the KIND stays", y.boat(0, 0), 3);
    }
}
