/**
 * KINDS, TEXT and A NIGHT's course: the bounds that a number stops at, and the numbers from which on something is
 * otherwise, each with the ones just beside it.
 */
final class StopsTest {
    private StopsTest() {
    }

    public static void main(String[] args) {
        whatATextSays();
        whatATextSaysIsThenOfAKind();
        coalStopsAt9999();
        coalOfKindsStopsAt9999();
        heatStopsByLending();
        heatStopsByRepaying();
        heatStopsByBurning();
        heatStopsAt0();
        coldGoesTo0();
        failedIsColdFor20();
        woodGoesTo0();
        widowsHalfIsCut();
        ovensTwentiethIsCut();
        thatchAbove200();
        growsAbove50();
        debtorBelowMore();
        glassByOddNights();
        dueIsNightOrLess();
        asMuchAsTheCoal();
        nightPasses999InThought();
        Checks.finish();
    }

    /** HEAT of the only HUT behind one NIGHT under a law. */
    private static int heatBehind(int kindMore, int heat, int wood, String cools, String burns) {
        CoalIsLent x = Checks.underLaw(Checks.withHuts(kindMore, 100 * heat + wood), "0", cools, burns);
        x.night();
        return x.told(0, 0);
    }

    private static void heats(int kindMore, int wood, String cools, String burns, int[][] pairs) {
        for (int[] p : pairs) {
            Checks.due("kindMore " + kindMore + ", cools " + cools + ", burns " + burns + ": HEAT " + p[0],
                    heatBehind(kindMore, p[0], wood, cools, burns), p[1]);
        }
    }

    private static void whatATextSays() {
        String[] all = {"-1", "0", "1", "98", "99", "100", "9999", "-9999", "0-1", "99+1", "50*2-1", "4096*4096*128",
            "4096*4096*128-1"};
        int[] due = {0, 0, 1, 98, 99, 99, 99, 0, 0, 99, 99, 0, 99};
        for (int i = 0; i < all.length; i++) {
            CoalIsLent x = Checks.underLaw(Checks.withHuts(0, 0), all[i], all[i], all[i]);
            for (int part = 0; part < 3; part++) Checks.due(all[i] + ", part " + part, x.asks(part, 0, 0), due[i]);
        }
        // in a NIGHT, too
        heats(0, 1, "0", "9999", new int[][] {{0, 99}});
        heats(0, 1, "9999", "0", new int[][] {{100, 1}});
        heats(0, 1, "0-5", "0-5", new int[][] {{100, 100}});
    }

    /** The bound is of what the text says, not of what a KIND makes of it; and asks() tells the former. */
    private static void whatATextSaysIsThenOfAKind() {
        heats(20, 1, "0", "100", new int[][] {{0, 198 - 9}});
        heats(39, 1, "0", "99", new int[][] {{0, 108}});
        heats(20, 0, "99", "0", new int[][] {{2000, 2000 - 99 - 100}});
        heats(10, 0, "100", "0", new int[][] {{100, 51}});
        for (int kind = 0; kind < 6; kind++) {
            CoalIsLent x = Checks.underLaw(Checks.withHuts(10 * kind + 9, 30005), "9", "8", "7");
            Checks.due("asks grows of KIND " + kind, x.asks(0, 0, 9999), 9);
            Checks.due("asks cools of KIND " + kind, x.asks(1, 0, 0), 8);
            Checks.due("asks burns of KIND " + kind, x.asks(2, 0, 0), 7);
        }
    }

    /** A COAL behind one NIGHT, told to grow by 99. */
    private static int coalBehind(int kindMore, int coal) {
        CoalIsLent x = Checks.underLaw(Checks.withHuts(0, 999900, kindMore, 0), "99", "0", "0");
        Checks.due("lend", x.lend(1, 100 * coal + 9), 0);
        x.night();
        return x.loan(0, 2);
    }

    private static void coals(int kindMore, int[][] pairs) {
        for (int[] p : pairs) Checks.due("COAL of " + kindMore + ": " + p[0], coalBehind(kindMore, p[0]), p[1]);
    }

    private static void coalStopsAt9999() {
        coals(0, new int[][] {{1, 100}, {9899, 9998}, {9900, 9999}, {9901, 9999}, {9998, 9999}, {9999, 9999}});
    }

    private static void coalOfKindsStopsAt9999() {
        coals(19, new int[][] {{9890, 9998}, {9891, 9999}, {9892, 9999}, {9999, 9999}});
        coals(39, new int[][] {{9890, 9998}, {9891, 9999}, {9892, 9999}, {9999, 9999}});
        coals(20, new int[][] {{9899, 9998}, {9900, 9999}, {9901, 9999}});
        coals(40, new int[][] {{9799, 9998}, {9800, 9999}, {9801, 9999}, {9999, 9999}});
        coals(59, new int[][] {{1, 1}, {9998, 9998}, {9999, 9999}});
    }

    private static void heatStopsByLending() {
        int[][] all = {{9990, 8, 9998}, {9990, 9, 9999}, {9990, 10, 9999}, {9999, 1, 9999}, {9999, 9999, 9999},
            {0, 9999, 9999}, {1, 9999, 9999}};
        for (int[] a : all) {
            CoalIsLent x = Worlds.calm(0, 999900, 0, 100 * a[0]);
            x.lend(1, 100 * a[1] + 1);
            Checks.due("HEAT of the other", x.told(1, 0), a[2]);
            Checks.due("HEAT of the one", x.told(0, 0), 9999 - a[1]);
            Checks.due("the COAL", x.loan(0, 2), a[1]);
        }
    }

    private static void heatStopsByRepaying() {
        int[][] all = {{9990, 8, 9998}, {9990, 9, 9999}, {9990, 10, 9999}, {9999, 1, 9999}, {9999, 5000, 9999}};
        for (int[] a : all) {
            for (boolean inANight : new boolean[] {false, true}) {
                CoalIsLent x = Worlds.calm(0, 999900, 0, 0);
                x.lend(1, 100 * a[1] + 1);
                x.put(0, 0, a[0]);
                x.put(1, 0, a[1] + 7);
                if (inANight) {
                    x.night();
                    x.night();
                } else {
                    Checks.due("repay", x.repay(0), a[1]);
                }
                Checks.due("HEAT of the one", x.told(0, 0), a[2]);
                Checks.due("HEAT of the other", x.told(1, 0), 7);
            }
        }
    }

    private static void heatStopsByBurning() {
        heats(0, 1, "0", "10", new int[][] {{9988, 9998}, {9989, 9999}, {9990, 9999}, {9999, 9999}});
        // it stops ahead of the cooling
        heats(0, 1, "2", "10", new int[][] {{9988, 9996}, {9989, 9997}, {9990, 9997}, {9999, 9997}});
        heats(20, 1, "0", "99", new int[][] {{9800, 9499}, {9801, 9500}, {9802, 9500}, {9999, 9500}});
    }

    private static void heatStopsAt0() {
        heats(0, 0, "5", "0", new int[][] {{0, 0}, {4, 0}, {5, 0}, {6, 1}});
        heats(0, 1, "5", "4", new int[][] {{0, 0}, {1, 0}, {2, 1}});
        heats(20, 0, "1", "0", new int[][] {{0, 0}, {1, 0}, {2, 1}});
        // by snow, five times over
        int[][] all = {{0, 50}, {9, 5}, {10, 0}, {11, 0}, {999, 0}};
        for (int[] a : all) Checks.due("snow " + a[0], Worlds.calm(0, 5000).drawn(7, a[0], 1), a[1]);
        // it stops ahead of the NIGHT: what burns 7 more than there is HEAT, burns 7
        CoalIsLent x = Checks.underLaw(Checks.withHuts(0, 599), "0", "0", "heat + 7");
        Checks.due("snow on a fire", x.drawn(0, 999, 1), 7);
        Checks.due("snow by 1 more than there is HEAT, at first", x.drawn(0, 6, 1), 37);
    }

    private static void coldGoesTo0() {
        int[][] all = {{0, 0, 110, 4}, {1, 0, 0, 5}, {2, 1, 0, 5}, {99, 98, 0, 5}};
        for (int[] a : all) {
            CoalIsLent x = Checks.underLaw(Checks.withHuts(0, 10005), "0", "0", "10");
            x.put(0, 2, a[0]);
            x.night();
            Checks.due("COLD " + a[0], x.told(0, 2), a[1]);
            Checks.due("COLD " + a[0] + ": HEAT", x.told(0, 0), a[2]);
            Checks.due("COLD " + a[0] + ": WOOD", x.told(0, 1), a[3]);
        }
        CoalIsLent x = Checks.underLaw(Checks.withHuts(0, 10005), "0", "0", "10");
        x.put(0, 2, 1);
        x.night();
        x.night();
        Checks.due("it burns in the NIGHT behind the last COLD one", x.told(0, 0), 10);
    }

    private static void failedIsColdFor20() {
        for (int cold : new int[] {0, 1, 19, 20, 21, 99}) {
            for (int loans = 1; loans <= 3; loans++) {
                CoalIsLent x = Worlds.calm(0, 10000, 0, 5);
                for (int k = 0; k < loans; k++) x.lend(1, 1001);
                x.night();
                x.put(1, 0, 9);
                x.put(1, 2, cold);
                Checks.due("FAILED", x.night(), 2);
                Checks.due("COLD for 20, one NIGHT of which is this", x.told(1, 2), 19);
                Checks.due("HEAT", x.told(1, 0), 0);
                Checks.due("WOOD", x.told(1, 1), 4);
                Checks.due("LOANS are none", x.count(1), 0);
                Checks.due("who lent has nothing of it", x.told(0, 0), 100 - 10 * loans);
            }
        }
    }

    private static void woodGoesTo0() {
        for (int kindMore : new int[] {0, 10, 20, 30, 40, 49, 50}) {
            for (int[] a : new int[][] {{0, 0}, {1, 0}, {2, 1}, {99, 98}}) {
                CoalIsLent x = Checks.withHuts(kindMore, 10000 + a[0]);
                x.night();
                Checks.due("WOOD " + a[0] + " of " + kindMore, x.told(0, 1), a[1]);
            }
        }
        heats(0, 0, "0", "10", new int[][] {{100, 100}});
        heats(0, 1, "0", "10", new int[][] {{100, 110}});
        // told ahead of both: WOOD is as it was, for BURNS; as it is then, for COOLS
        heats(0, 1, "wood*50", "wood*10", new int[][] {{100, 110}});
        heats(0, 2, "wood*50", "wood*10", new int[][] {{100, 70}});
        heats(0, 1, "heat - 100", "heat", new int[][] {{60, 120 - 20}, {50, 100}, {49, 98}});
    }

    private static void widowsHalfIsCut() {
        int[][] all = {{0, 100}, {1, 100}, {2, 99}, {3, 99}, {98, 51}, {99, 51}};
        for (int[] a : all) {
            Checks.due("WIDOW cools " + a[0], heatBehind(10, 100, 0, "" + a[0], "0"), a[1]);
            Checks.due("THATCH cools " + a[0], heatBehind(30, 100, 0, "" + a[0], "0"), a[1]);
        }
    }

    private static void ovensTwentiethIsCut() {
        int[][] all = {{0, 0}, {1, 1}, {19, 19}, {20, 19}, {39, 38}, {40, 38}, {9979, 9481}, {9980, 9481}, {9999, 9500}};
        heats(20, 0, "0", "0", all);
        heats(40, 0, "0", "0", all);
        // of HEAT behind the burning
        heats(20, 1, "0", "1", new int[][] {{17, 19}, {18, 19}});
    }

    private static void thatchAbove200() {
        heats(30, 0, "4", "0", new int[][] {{199, 197}, {200, 198}, {201, 0}, {202, 0}, {9999, 0}, {0, 0}});
        // of HEAT behind the burning, MORE of which is its own
        heats(39, 1, "4", "1", new int[][] {{189, 197}, {190, 198}, {191, 0}});
        heats(10, 0, "4", "0", new int[][] {{201, 199}, {9999, 9997}});
    }

    private static void growsAbove50() {
        int[][] all = {{49, 49}, {50, 50}, {51, 60}, {52, 61}, {1, 1}};
        for (int kindMore : new int[] {19, 39}) {
            for (int[] a : all) {
                CoalIsLent x = Worlds.calm(0, 999900, kindMore, 0);
                x.lend(1, 100 * a[0] + 9);
                x.night();
                Checks.due("COAL of " + kindMore + ": " + a[0], x.loan(0, 2), a[1]);
            }
        }
        // the COAL as it is ahead of this growing: 50, then 51, then 61
        CoalIsLent x = Checks.underLaw(Checks.withHuts(0, 999900, 19, 0), "1", "0", "0");
        x.lend(1, 5009);
        for (int due : new int[] {51, 61, 71}) {
            x.night();
            Checks.due("COAL", x.loan(0, 2), due);
        }
        // a DEBTOR's is twice what the text says, and 1
        CoalIsLent y = Worlds.calm(0, 999900, 49, 0);
        y.lend(1, 109);
        y.night();
        Checks.due("COAL of a DEBTOR", y.loan(0, 2), 2);
    }

    private static void debtorBelowMore() {
        for (int more = 0; more <= 9; more++) {
            CoalIsLent x = Checks.underLaw(Checks.withHuts(40 + more, 99), "0", "0", "5");
            for (int night = 0; night <= 10; night++) {
                x.put(0, 0, 0);
                x.night();
                Checks.due("MORE " + more + ", NIGHT " + night, x.told(0, 0), night < more ? 0 : 10);
                Checks.due("WOOD goes", x.told(0, 1), 98 - night);
            }
        }
    }

    private static void glassByOddNights() {
        CoalIsLent x = Checks.underLaw(Checks.withHuts(59, 4), "99", "0", "99");
        int[] due = {0, 30, 30, 60, 60, 60};
        for (int night = 0; night < due.length; night++) {
            x.night();
            Checks.due("GLASS behind NIGHT " + night, x.told(0, 0), due[night]);
        }
    }

    private static void dueIsNightOrLess() {
        for (int nights : new int[] {1, 2, 98, 99}) {
            CoalIsLent x = Worlds.calm(0, 10000, 0, 0);
            x.night();
            x.lend(1, 1000 + nights);
            Checks.due("DUE", x.loan(0, 3), 1 + nights);
            for (int i = 0; i < nights; i++) x.night();
            Checks.due("NIGHT is DUE now", x.count(2), 1 + nights);
            Checks.due("not REPAID yet", x.count(1), 1);
            Checks.due("not REPAID yet", x.told(0, 0), 90);
            x.night();
            Checks.due("REPAID", x.count(1), 0);
            Checks.due("REPAID", x.told(0, 0), 100);
        }
    }

    private static void asMuchAsTheCoal() {
        int[][] all = {{9, 2, 0, 90}, {10, 0, 0, 100}, {11, 0, 1, 100}, {0, 2, 0, 90}};
        for (int[] a : all) {
            CoalIsLent x = Worlds.calm(0, 10000, 0, 0);
            x.lend(1, 1001);
            x.night();
            x.put(1, 0, a[0]);
            Checks.due("HEAT " + a[0] + " of a COAL of 10: FAILED", x.night(), a[1]);
            Checks.due("HEAT " + a[0] + ": HEAT then", x.told(1, 0), a[2]);
            Checks.due("HEAT " + a[0] + ": HEAT of the other", x.told(0, 0), a[3]);
        }
        // the COAL is as hot as it has grown in that very NIGHT
        CoalIsLent x = Checks.underLaw(Checks.withHuts(0, 10000, 0, 0), "1", "0", "0");
        x.lend(1, 1001);
        x.put(1, 0, 11);
        x.night();
        Checks.due("12 by now, and 11 there", x.run(1, 1), 2);
        x.put(1, 0, 12);
        Checks.due("12 by now, and 12 there", x.run(1, 1), 0);
    }

    private static void nightPasses999InThought() {
        CoalIsLent x = Checks.withHuts(0, 99, 50, 99);
        for (int i = 0; i < 999; i++) x.night();
        Checks.underLaw(x, "0", "0", "night < 1001");
        for (int h = 0; h < 2; h++) {
            x.put(h, 0, 0);
            x.put(h, 1, 99);
        }
        // NIGHTS 999, 1000, 1001, 1002, the odd ones of which are GLASS's
        int[][] due = {{0, 0}, {1, 30}, {2, 30}, {2, 60}, {2, 60}};
        for (int n = 0; n < due.length; n++) {
            for (int h = 0; h < 2; h++) Checks.due("run(" + n + ") of " + h, x.run(n, 10 + h), due[n][h]);
        }
        Checks.due("no NIGHT truly", x.night(), -3);
        Checks.due("NIGHT", x.count(2), 999);
        Checks.due("lend() for beyond it", x.put(0, 0, 50) + x.lend(1, 1099), 0);
        Checks.due("DUE", x.loan(0, 3), 1098);
        Checks.due("40 NIGHTS in thought", x.run(40, 2), 1);
    }
}
