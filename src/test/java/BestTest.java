/** Promises 21 to 24: ask, needs, mercy, worst. */
final class BestTest {
    private BestTest() {
    }

    public static void main(String[] args) {
        ask();
        askRefusals();
        needs();
        mercy();
        mercyInVain();
        worst();
        worstHasNoWood();
        Checks.finish();
    }

    private static void ask() {
        // an OVEN that lends has less to cool
        CoalIsLent x = Checks.withHuts(0, 500, 0, 10000, 20, 10000);
        Checks.underLaw(x, "0", "0", "0");
        String before = Checks.all(x);
        Checks.due("whom", x.ask(0, 4001, 0), 2);
        Checks.due("HEAT of all", x.ask(0, 4001, 1), 198);
        Checks.due("too hot", x.ask(0, 10101, 0), -1);
        Checks.due("too hot", x.ask(0, 10101, 1), -1);
        Checks.same("ask()", before, x);
        x.put(2, 2, 1);
        Checks.due("not a COLD one", x.ask(0, 4001, 0), 1);
        CoalIsLent y = Checks.withHuts(0, 5000, 0, 5000, 0, 5000);
        Checks.due("of like ones the first", y.ask(0, 1001, 0), 1);
        Checks.due("of like ones the first", y.ask(1, 1001, 0), 0);
        for (int k = 0; k < 10; k++) y.lend(1, 101);
        Checks.due("FULL", y.ask(0, 101, 0), -1);
        Checks.due("FULL", y.ask(0, 101, 1), -1);
        Checks.due("alone", Checks.withHuts(0, 5000).ask(0, 101, 0), -1);
    }

    private static void askRefusals() {
        CoalIsLent x = Checks.withHuts(0, 999900, 0, 999900);
        Checks.due("no HUT 2", x.ask(2, 101, 0), -5);
        Checks.due("no HUT -1, ahead of the others", x.ask(-1, 0, 9), -5);
        for (int coalNights : new int[] {0, 1, 100, 140, 199, -101, 999940, 999900, 1000001, Integer.MIN_VALUE}) {
            Checks.due("coalNights " + coalNights, x.ask(0, coalNights, 0), -7);
        }
        Checks.due("what 2", x.ask(0, 101, 2), -7);
        Checks.due("what -1", x.ask(0, 101, -1), -7);
        Checks.due("39 NIGHTS", x.ask(0, 139, 0), 1);
        Checks.due("9999", x.ask(0, 999939, 0), 1);
    }

    private static void needs() {
        CoalIsLent x = Checks.withHuts(0, 10000, 0, 0);
        Checks.underLaw(x, "0", "0", "10");
        x.lend(1, 6003);
        x.put(1, 0, 35);
        x.put(1, 1, 50);
        String before = Checks.all(x);
        Checks.due("three pieces", x.needs(1, 4), 3);
        Checks.due("as many later", x.needs(1, 40), 3);
        Checks.due("not DUE yet", x.needs(1, 3), 0);
        Checks.due("no NIGHT", x.needs(1, 0), 0);
        Checks.due("owes nothing", x.needs(0, 40), 0);
        Checks.due("no HUT 2", x.needs(2, 0), -5);
        Checks.due("no HUT -1, ahead of n", x.needs(-1, 41), -5);
        Checks.due("n -1", x.needs(1, -1), -7);
        Checks.due("n 41", x.needs(1, 41), -7);
        Checks.same("needs()", before, x);
        x.put(1, 0, 0);
        Checks.due("never enough", x.needs(1, 4), -1);
        // one that FAILS early FAILS, though a later LOAN is paid
        x.lend(1, 130);
        x.lend(10, 109);
        Checks.due("never enough", x.needs(1, 20), -1);
        Checks.due("one FAILS", x.mercy(20, 0), 0);
        Checks.due("without it none does", x.mercy(20, 1), 0);
        // all that it has: 99 pieces tell
        CoalIsLent y = Checks.withHuts(0, 10000, 0, 0);
        Checks.underLaw(y, "0", "0", "wood = 99");
        y.lend(1, 101);
        y.put(1, 0, 0);
        Checks.due("99 pieces", y.needs(1, 2), 99);
    }

    private static void mercy() {
        CoalIsLent x = Checks.withHuts(0, 10000, 0, 0, 0, 0);
        Checks.underLaw(x, "0", "0", "0");
        x.lend(1, 1001);
        x.lend(2, 2001);
        x.put(1, 0, 0);
        x.put(2, 0, 0);
        String before = Checks.all(x);
        Checks.due("which", x.mercy(2, 0), 0);
        Checks.due("how many", x.mercy(2, 1), 1);
        Checks.due("none FAILS yet", x.mercy(1, 0), -1);
        Checks.due("none FAILS yet", x.mercy(1, 1), 0);
        Checks.due("no NIGHT", x.mercy(0, 0), -1);
        Checks.due("no NIGHT", x.mercy(0, 1), 0);
        Checks.due("n -1", x.mercy(-1, 0), -2);
        Checks.due("n 41", x.mercy(41, 0), -2);
        Checks.due("what -1", x.mercy(1, -1), -2);
        Checks.due("what 2", x.mercy(1, 2), -2);
        Checks.same("mercy()", before, x);
        // a LOAN by which two FAIL: 1 would pay 2's, were it not for 0's
        CoalIsLent y = Checks.withHuts(0, 10000, 0, 10000, 0, 10000, 0, 0);
        Checks.underLaw(y, "0", "0", "0");
        y.lend(3, 101);
        y.lend(1, 5001);
        y.lend(21, 4002);
        y.lend(12, 1003);
        y.put(1, 0, 50);
        y.put(2, 0, 5);
        y.put(3, 0, 5);
        // NIGHT 1: 3 pays 1, 1 pays 50; NIGHT 2: 1 FAILS 2; NIGHT 3: 2, with 5, FAILS 1
        Checks.due("as it is", y.run(10, 1), 2 + 4);
        Checks.due("which", y.mercy(10, 0), 1);
        Checks.due("how many", y.mercy(10, 1), 0);
    }

    private static void mercyInVain() {
        CoalIsLent x = Checks.withHuts(0, 10000, 0, 0);
        Checks.underLaw(x, "0", "0", "0");
        x.lend(1, 1001);
        x.lend(1, 2001);
        x.put(1, 0, 0);
        Checks.due("it FAILS the other", x.mercy(5, 0), -1);
        Checks.due("as so", x.mercy(5, 1), 1);
        Checks.due("no LOANS", new CoalIsLent().mercy(40, 0), -1);
        Checks.due("no LOANS", new CoalIsLent().mercy(40, 1), 0);
    }

    private static void worst() {
        CoalIsLent x = Checks.withHuts(0, 1000, 0, 3000, 0, 2000);
        Checks.underLaw(x, "0", "0", "0");
        String before = Checks.all(x);
        Checks.due("which", x.worst(0, 0), 1);
        Checks.due("HEAT of all others", x.worst(0, 1), 30);
        x.put(2, 0, 30);
        Checks.due("of like ones the first", x.worst(40, 0), 1);
        Checks.due("HEAT of all others", x.worst(40, 1), 40);
        x.put(2, 0, 20);
        Checks.same("worst()", before, x);
        Checks.due("n -1", x.worst(-1, 0), -2);
        Checks.due("n 41", x.worst(41, 0), -2);
        Checks.due("what -1", x.worst(1, -1), -2);
        Checks.due("what 2", x.worst(1, 2), -2);
        Checks.due("no HUTS", new CoalIsLent().worst(0, 0), -1);
        Checks.due("no HUTS", new CoalIsLent().worst(0, 1), -1);
        Checks.due("BAD without HUTS, too", new CoalIsLent().worst(0, 2), -2);
    }

    private static void worstHasNoWood() {
        CoalIsLent x = Checks.withHuts(0, 5000, 0, 5);
        Checks.underLaw(x, "0", "0", "50");
        x.lend(1, 4002);
        Checks.due("who owes", x.worst(3, 0), 1);
        Checks.due("and can't pay", x.worst(3, 1), 10);
        // with a HEAT of 1 it could pay
        CoalIsLent y = Checks.withHuts(0, 5000, 0, 0);
        Checks.underLaw(y, "0", "0", "50");
        y.lend(1, 101);
        y.put(0, 0, 0);
        y.put(1, 0, 50);
        Checks.due("HEAT of all others", y.worst(2, 0), 1);
        Checks.due("HEAT of all others", y.worst(2, 1), 0);
        // HUT 0 has 10 again then, HUT 1 has 20
        CoalIsLent z = Checks.withHuts(0, 20000, 0, 2000);
        Checks.underLaw(z, "0", "0", "0");
        z.lend(1, 1001);
        Checks.due("who is hot", z.worst(2, 0), 0);
        Checks.due("what is its own then does not count", z.worst(2, 1), 20);
    }
}
