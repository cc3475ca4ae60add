/** Promises 14 to 16: a NIGHT's course by all KINDS, night, run, lasts. */
final class NightTest {
    private NightTest() {
    }

    public static void main(String[] args) {
        kindsCoolAndBurn();
        kindsGrow();
        growsAbove50();
        allThatThereCanBe();
        growsAsAllIsThen();
        burnsAheadCoolsBehind();
        repaidInOrder();
        failedAndCold();
        bounds();
        lastNight();
        run();
        lasts();
        lastsAtTheEdge();
        Checks.finish();
    }

    /** A HUT's HEAT behind some NIGHTS, one by one. */
    private static void heats(int kindMore, int heatWood, int... due) {
        CoalIsLent x = Checks.withHuts(kindMore, heatWood);
        Checks.underLaw(x, "10", "20", "30");
        for (int i = 0; i < due.length; i++) {
            Checks.due("night", x.night(), 0);
            Checks.due("kindMore " + kindMore + ", " + heatWood + ": HEAT behind " + (i + 1), x.told(0, 0), due[i]);
        }
        Checks.due("WOOD", x.told(0, 1), Math.max(0, heatWood % 100 - due.length));
        Checks.due("NIGHT", x.count(2), due.length);
    }

    private static void kindsCoolAndBurn() {
        heats(0, 10001, 110, 90, 70);
        heats(14, 10001, 120, 110, 100);
        heats(20, 10001, 132, 106, 81);
        heats(34, 10001, 124, 114, 104);
        heats(34, 20000, 190, 180);
        heats(34, 20100, 0, 0);
        heats(34, 17001, 0);
        heats(34, 16601, 190);
        heats(42, 10003, 75, 52, 87);
        heats(40, 10001, 132);
        heats(50, 10003, 80, 90, 70, 50);
        heats(0, 1000, 0, 0);
        // cut: half of 3 is 1, 39 by 20 is 1
        CoalIsLent x = Checks.withHuts(10, 1000, 20, 3900, 30, 1000);
        Checks.underLaw(x, "0", "3", "0");
        x.night();
        Checks.due("WIDOW", x.told(0, 0), 9);
        Checks.due("OVEN", x.told(1, 0), 35);
        Checks.due("THATCH", x.told(2, 0), 9);
    }

    private static void kindsGrow() {
        int[] kinds = {4, 14, 24, 34, 44, 54};
        int[] first = {60, 60, 60, 60, 71, 50};
        int[] second = {70, 74, 70, 74, 92, 50};
        for (int i = 0; i < kinds.length; i++) {
            CoalIsLent x = Checks.withHuts(0, 10000, kinds[i], 0);
            Checks.underLaw(x, "10", "0", "0");
            x.lend(1, 5009);
            x.night();
            Checks.due("KIND " + i + " GROWS", x.loan(0, 2), first[i]);
            x.night();
            Checks.due("KIND " + i + " GROWS further", x.loan(0, 2), second[i]);
        }
    }

    private static void growsAbove50() {
        for (int kindMore : new int[] {19, 39}) {
            CoalIsLent x = Checks.withHuts(0, 20000, kindMore, 0);
            x.lend(1, 5009);
            x.lend(1, 5109);
            x.night();
            Checks.due("a COAL of 50", x.loan(0, 2), 51);
            Checks.due("a COAL of 51", x.loan(1, 2), 61);
        }
    }

    private static void allThatThereCanBe() {
        CoalIsLent x = Checks.withHuts(0, 10000, 0, 10000, 0, 10000, 0, 10000, 0, 10000, 0, 10000);
        for (int k = 0; k < 10; k++) x.lend(k % 2 == 0 ? 45 : 50, 101 + k / 5);
        Checks.due("night", x.night(), 0);
        Checks.due("ten LOANS", x.count(1), 10);
        for (int k = 0; k < 10; k++) Checks.due("COAL " + k, x.loan(k, 2), 2);
        Checks.due("night", x.night(), 0);
        Checks.due("five LOANS", x.count(1), 5);
        Checks.due("forgive the last", x.forgive(4), 3);
        x.put(5, 0, 0);
        x.put(0, 0, 0);
        Checks.due("night", x.night(), 1 + 32);
        Checks.due("no LOANS", x.count(1), 0);
        Checks.due("HEAT of the first", x.told(0, 0), 0);
        Checks.due("HEAT of one between", x.told(2, 0), 94);
    }

    private static void growsAsAllIsThen() {
        CoalIsLent x = Checks.withHuts(0, 10000, 0, 500);
        Checks.underLaw(x, "owed", "0", "0");
        x.lend(1, 309);
        x.lend(1, 409);
        x.night();
        Checks.due("the first by 7", x.loan(0, 2), 10);
        Checks.due("the second by 14", x.loan(1, 2), 18);
        CoalIsLent y = Checks.withHuts(7, 10003, 2, 1005);
        Checks.underLaw(y, "coal + heat * 10 + wood - more + night", "0", "0");
        y.lend(1, 309);
        y.put(1, 0, 4);
        y.night();
        // of who owes it: 3 + 40 + 5 - 2 + 0
        Checks.due("of who owes it", y.loan(0, 2), 3 + 46);
    }

    private static void burnsAheadCoolsBehind() {
        CoalIsLent x = Checks.withHuts(0, 1003);
        Checks.underLaw(x, "0", "wood * 10 + night + coal", "heat + wood + coal");
        x.put(0, 0, 40);
        x.night();
        // burns 40 + 3, then cools 2 * 10 + 0
        Checks.due("HEAT", x.told(0, 0), 40 + 43 - 20);
        x.night();
        Checks.due("HEAT", x.told(0, 0), 63 + 65 - 11);
        Checks.due("WOOD", x.told(0, 1), 1);
    }

    private static void repaidInOrder() {
        // HUT 1 can pay HUT 0 only once HUT 2 has paid it
        CoalIsLent x = Checks.withHuts(0, 10000, 0, 10000, 0, 10000);
        Checks.underLaw(x, "0", "0", "0");
        x.lend(12, 2001);
        x.lend(1, 5001);
        x.put(1, 0, 30);
        Checks.due("not yet", x.night(), 0);
        Checks.due("NIGHT 1", x.night(), 0);
        Checks.due("HEAT of 0", x.told(0, 0), 100);
        Checks.due("HEAT of 1", x.told(1, 0), 0);
        Checks.due("HEAT of 2", x.told(2, 0), 100);
        CoalIsLent y = Checks.withHuts(0, 10000, 0, 10000, 0, 10000);
        Checks.underLaw(y, "0", "0", "0");
        y.lend(1, 5001);
        y.lend(12, 2001);
        y.lend(20, 309);
        y.put(1, 0, 30);
        y.night();
        Checks.due("the other way round", y.night(), 2);
        Checks.due("HEAT of 0", y.told(0, 0), 53);
        Checks.due("HEAT of 1", y.told(1, 0), 0);
        Checks.due("HEAT of 2", y.told(2, 0), 97);
        Checks.due("one LOAN is left", y.count(1), 1);
        Checks.due("it is 0 now", y.loan(0, 2), 3);
    }

    private static void failedAndCold() {
        CoalIsLent x = Checks.withHuts(0, 10000, 0, 5);
        Checks.underLaw(x, "0", "1", "10");
        x.lend(1, 2001);
        x.lend(1, 3001);
        x.put(1, 2, 2);
        x.put(1, 0, 50);
        x.night();
        Checks.due("a COLD one has HEAT 0", x.told(1, 0), 0);
        Checks.due("COLD is 1 less", x.told(1, 2), 1);
        Checks.due("and WOOD stays", x.told(1, 1), 5);
        x.put(1, 2, 99);
        Checks.due("FAILED", x.night(), 2);
        Checks.due("both LOANS are none", x.count(1), 0);
        Checks.due("COLD for 20, one gone", x.told(1, 2), 19);
        for (int i = 18; i >= 0; i--) {
            Checks.due("night", x.night(), 0);
            Checks.due("COLD", x.told(1, 2), i);
            Checks.due("HEAT", x.told(1, 0), 0);
            Checks.due("WOOD", x.told(1, 1), 5);
        }
        x.night();
        Checks.due("HEAT comes again", x.told(1, 0), 9);
        Checks.due("WOOD goes", x.told(1, 1), 4);
    }

    private static void bounds() {
        CoalIsLent x = Checks.withHuts(0, 999901, 0, 999900);
        Checks.underLaw(x, "99", "0", "99");
        x.lend(1, 999902);
        x.night();
        Checks.due("a COAL of 9999 at most", x.loan(0, 2), 9999);
        x.put(0, 0, 9990);
        x.put(0, 1, 1);
        x.night();
        Checks.due("HEAT of 9999 at most by WOOD", x.told(0, 0), 9999);
        Checks.due("REPAID", x.night(), 0);
        Checks.due("HEAT of 9999 at most by a COAL", x.told(0, 0), 9999);
        Checks.due("with as much as the COAL", x.told(1, 0), 0);
    }

    private static void lastNight() {
        CoalIsLent x = Checks.withHuts(0, 10000);
        for (int i = 0; i < 999; i++) x.night();
        Checks.due("NIGHT", x.count(2), 999);
        Checks.due("no NIGHT more", x.night(), -3);
        Checks.due("NIGHT", x.count(2), 999);
        x.put(0, 0, 100);
        Checks.due("but in thought", x.run(40, 0), 20);
    }

    private static void run() {
        CoalIsLent x = Checks.withHuts(0, 10000, 0, 0);
        x.lend(1, 3002);
        String before = Checks.all(x);
        int[][] due = {{0, 0, 100}, {0, 1, 0}, {0, 2, 1}, {0, 10, 70}, {0, 11, 30}, {2, 11, 26}, {2, 1, 0}, {2, 2, 1},
            {3, 0, 64}, {3, 1, 2}, {3, 2, 0}, {3, 10, 64}, {3, 11, 0}, {40, 0, 0}, {40, 1, 2}, {34, 10, 2}};
        for (int[] d : due) Checks.due("run(" + d[0] + ", " + d[1] + ")", x.run(d[0], d[1]), d[2]);
        for (int n : new int[] {-1, 41}) Checks.due("run(" + n + ", 0)", x.run(n, 0), -2);
        for (int what : new int[] {-1, 3, 9, 12, 16, Integer.MAX_VALUE, Integer.MIN_VALUE}) {
            Checks.due("run(1, " + what + ")", x.run(1, what), -2);
        }
        Checks.same("run()", before, x);
        // one FAILS in the third NIGHT, the other in the fourth
        x.hut(0, 0);
        x.lend(2, 3003);
        Checks.due("both", x.run(4, 1), 2 + 4);
    }

    private static void lasts() {
        CoalIsLent x = Checks.withHuts(0, 10000, 0, 0);
        Checks.due("HEAT 0 now", x.lasts(1, 1), 0);
        x.lend(1, 3002);
        String before = Checks.all(x);
        Checks.due("FAILED", x.lasts(1, 0), 3);
        Checks.due("HEAT 0", x.lasts(1, 1), 3);
        Checks.due("never FAILED", x.lasts(0, 0), -1);
        Checks.due("HEAT 0", x.lasts(0, 1), 35);
        Checks.due("no HUT 2", x.lasts(2, 0), -5);
        Checks.due("no HUT -1, ahead of what", x.lasts(-1, 2), -5);
        Checks.due("what 2", x.lasts(0, 2), -7);
        Checks.due("what -1", x.lasts(0, -1), -7);
        Checks.same("lasts()", before, x);
    }

    private static void lastsAtTheEdge() {
        CoalIsLent x = Checks.withHuts(0, 8000, 0, 8100, 0, 99999);
        Checks.due("40 NIGHTS", x.lasts(0, 1), 40);
        Checks.due("41 NIGHTS", x.lasts(1, 1), -1);
        x.lend(20, 139);
        x.lend(21, 140);
        x.put(0, 0, 0);
        x.put(1, 0, 0);
        Checks.due("FAILED in the 40th", x.lasts(0, 0), 40);
        Checks.due("FAILED in the 41st", x.lasts(1, 0), -1);
    }
}
