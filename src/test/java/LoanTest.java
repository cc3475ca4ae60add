/** Promises 10 to 13 and 17 to 20: loans, debts. */
final class LoanTest {
    private LoanTest() {
    }

    public static void main(String[] args) {
        lend();
        lendRefusals();
        loan();
        repay();
        forgive();
        net();
        settle();
        source();
        rings();
        Checks.finish();
    }

    private static void lend() {
        CoalIsLent x = Checks.withHuts(0, 10000, 0, 990000, 0, 0);
        Checks.due("lend", x.lend(2, 3001), 0);
        Checks.due("HEAT of the one", x.told(0, 0), 70);
        Checks.due("HEAT of the other", x.told(2, 0), 30);
        Checks.due("all that it has", x.lend(2, 7099), 1);
        Checks.due("HEAT of the one", x.told(0, 0), 0);
        x.put(0, 0, 500);
        Checks.due("to a hot one", x.lend(1, 20001), 2);
        Checks.due("9999 at most", x.told(1, 0), 9999);
        Checks.due("the COAL is whole", x.loan(2, 2), 200);
        x.night();
        x.night();
        x.put(2, 0, 40);
        Checks.due("DUE by NIGHT", x.lend(20, 103), 1);
        Checks.due("DUE", x.loan(1, 3), 5);
        x.put(2, 2, 5);
        Checks.due("to a COLD one", x.lend(2, 101), 2);
    }

    private static void lendRefusals() {
        CoalIsLent x = Checks.withHuts(0, 10000, 0, 5000);
        x.put(1, 2, 1);
        String before = Checks.all(x);
        for (int fromTo : new int[] {-1, -10, 0, 11, 2, 20, 12, 100, 101, 22, Integer.MIN_VALUE, Integer.MAX_VALUE}) {
            Checks.due("lend(" + fromTo + ", 0)", x.lend(fromTo, 0), -5);
        }
        for (int coalNights : new int[] {0, 1, 99, 100, 200, -101, -1, 1000000, 999900, Integer.MIN_VALUE}) {
            Checks.due("lend(1, " + coalNights + ")", x.lend(1, coalNights), -7);
        }
        Checks.due("less HEAT", x.lend(1, 10101), -3);
        Checks.due("COLD", x.lend(10, 101), -3);
        Checks.due("coalNights ahead of COLD", x.lend(10, 100), -7);
        Checks.due("9999 for 99", x.lend(1, 999999), -3);
        Checks.same("a refused lend()", before, x);
        for (int k = 0; k < 10; k++) Checks.due("lend " + k, x.lend(1, 101), k);
        before = Checks.all(x);
        Checks.due("the eleventh", x.lend(1, 101), -4);
        Checks.due("FULL ahead of STATE", x.lend(10, 101), -4);
        Checks.due("-7 ahead of FULL", x.lend(1, 100), -7);
        Checks.due("-5 ahead of -7", x.lend(11, 100), -5);
        Checks.same("a refused lend()", before, x);
    }

    private static void loan() {
        CoalIsLent x = Checks.withHuts(0, 10000, 0, 5000, 0, 100);
        x.lend(12, 2007);
        x.lend(1, 3003);
        long[][] due = {{1, 2, 20, 7}, {0, 1, 30, 3}};
        for (int k = 0; k < 2; k++) {
            for (int what = 0; what < 4; what++) {
                Checks.due("loan(" + k + ", " + what + ")", x.loan(k, what), due[k][what]);
            }
        }
        Checks.due("no LOAN 2", x.loan(2, 0), -5);
        Checks.due("no LOAN -1, ahead of what", x.loan(-1, 9), -5);
        Checks.due("what 4", x.loan(0, 4), -7);
        Checks.due("what -1", x.loan(1, -1), -7);
        x.night();
        Checks.due("the COAL has grown", x.loan(0, 2), 21);
    }

    private static void repay() {
        CoalIsLent x = Checks.withHuts(0, 10000, 0, 5000, 0, 0);
        x.lend(1, 3003);
        x.lend(12, 2007);
        x.lend(2, 405);
        x.put(2, 0, 19);
        String before = Checks.all(x);
        Checks.due("less HEAT", x.repay(1), -3);
        Checks.due("no LOAN 3", x.repay(3), -5);
        Checks.due("no LOAN -1", x.repay(-1), -5);
        Checks.same("a refused repay()", before, x);
        x.put(2, 0, 20);
        x.put(2, 2, 3);
        Checks.due("as much HEAT, and COLD", x.repay(1), 20);
        Checks.due("HEAT of who owed it", x.told(2, 0), 0);
        Checks.due("HEAT of the other", x.told(1, 0), 80);
        Checks.due("two are left", x.count(1), 2);
        Checks.due("the one behind it is 1 less", x.loan(1, 2), 4);
        x.put(0, 0, 9990);
        Checks.due("repay(0)", x.repay(0), 30);
        Checks.due("9999 at most", x.told(0, 0), 9999);
        Checks.due("HEAT of who owed it", x.told(1, 0), 50);
    }

    private static void forgive() {
        CoalIsLent x = Checks.withHuts(0, 10000, 0, 5000);
        x.lend(1, 3003);
        x.lend(10, 2007);
        x.lend(1, 405);
        x.put(1, 0, 0);
        int heat = x.told(0, 0);
        Checks.due("no LOAN 3", x.forgive(3), -5);
        Checks.due("no LOAN -1", x.forgive(-1), -5);
        Checks.due("forgive(0)", x.forgive(0), 30);
        Checks.due("HEAT stays", x.told(0, 0), heat);
        Checks.due("HEAT stays", x.told(1, 0), 0);
        Checks.due("what was 1 is 0", x.loan(0, 2), 20);
        Checks.due("its DUE", x.loan(0, 3), 7);
        Checks.due("what was 2 is 1", x.loan(1, 2), 4);
        Checks.due("from", x.loan(1, 0), 0);
        Checks.due("to", x.loan(1, 1), 1);
        Checks.due("forgive(1)", x.forgive(1), 4);
        Checks.due("forgive(0)", x.forgive(0), 20);
        Checks.due("none is left", x.count(1), 0);
        Checks.due("forgive(0)", x.forgive(0), -5);
    }

    private static void net() {
        CoalIsLent x = Checks.withHuts(0, 10000, 0, 10000, 0, 10000);
        Checks.due("nothing yet", x.net(0), 0);
        x.lend(1, 1009);
        x.lend(12, 2509);
        x.lend(2, 509);
        Checks.due("net(0)", x.net(0), 15);
        Checks.due("net(1)", x.net(1), 15);
        Checks.due("net(2)", x.net(2), -30);
        Checks.due("no HUT 3", x.net(3), -1000000);
        Checks.due("no HUT -1", x.net(-1), -1000000);
    }

    private static void settle() {
        CoalIsLent x = Checks.withHuts(0, 10000, 0, 10000, 0, 10000, 0, 10000);
        Checks.due("nothing to pay", x.settle(0), 0);
        Checks.due("nothing together", x.settle(1), 0);
        // nets -6, -4, 4, 6: the least pays the most, so that two payments do
        x.lend(20, 409);
        x.lend(30, 209);
        x.lend(31, 409);
        Checks.due("payments", x.settle(0), 2);
        Checks.due("together", x.settle(1), 10);
        Checks.due("what 2", x.settle(2), -2);
        Checks.due("what -1", x.settle(-1), -2);
        // nets -6, -9, 4, 11: 9 to the last, 4 to the third, 2 to the last
        x.lend(31, 509);
        Checks.due("payments", x.settle(0), 3);
        Checks.due("together", x.settle(1), 15);
        // a ring of like coals is set off whole
        CoalIsLent y = Checks.withHuts(0, 10000, 0, 10000, 0, 10000);
        y.lend(1, 709);
        y.lend(12, 709);
        y.lend(20, 709);
        Checks.due("payments of a ring", y.settle(0), 0);
        Checks.due("no HUTS", new CoalIsLent().settle(0), 0);
        y.lend(1, 109);
        Checks.due("a payment of 1", y.settle(0), 1);
        Checks.due("a payment of 1", y.settle(1), 1);
        // nets -9, 5, 5, -1: 5 to the first of them, 4 to the second, then 1
        CoalIsLent z = Checks.withHuts(0, 10000, 0, 10000, 0, 10000, 0, 10000);
        z.lend(10, 509);
        z.lend(20, 409);
        z.lend(23, 109);
        Checks.due("payments", z.settle(0), 3);
        Checks.due("together", z.settle(1), 10);
    }

    private static void source() {
        CoalIsLent x = Checks.withHuts(0, 10000, 0, 10000, 0, 10000, 0, 10000, 0, 10000, 0, 10000);
        x.lend(45, 109);
        x.lend(34, 109);
        x.lend(23, 109);
        x.lend(12, 109);
        Checks.due("source(5)", x.source(5), 2 + 4 + 8 + 16);
        Checks.due("source(3)", x.source(3), 2 + 4);
        Checks.due("source(1)", x.source(1), 0);
        Checks.due("source(0)", x.source(0), 0);
        x.lend(41, 109);
        Checks.due("in a ring", x.source(2), 2 + 4 + 8 + 16);
        Checks.due("behind a ring", x.source(5), 2 + 4 + 8 + 16);
        Checks.due("no HUT 6", x.source(6), -5);
        Checks.due("no HUT -1", x.source(-1), -5);
    }

    private static void rings() {
        CoalIsLent x = Checks.withHuts(0, 10000, 0, 10000, 0, 10000, 0, 10000, 0, 10000);
        Checks.due("no ring", x.rings(0), 0);
        Checks.due("nobody lends", x.rings(1), 0);
        x.lend(1, 109);
        x.lend(12, 109);
        x.lend(21, 109);
        x.lend(23, 109);
        Checks.due("in a ring", x.rings(0), 2 + 4);
        Checks.due("from none", x.rings(1), 1);
        Checks.due("what 2", x.rings(2), -2);
        Checks.due("what -1", x.rings(-1), -2);
        x.lend(30, 109);
        Checks.due("a greater ring", x.rings(0), 1 + 2 + 4 + 8);
        Checks.due("from none", x.rings(1), 0);
    }
}
