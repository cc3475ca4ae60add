/** Promises 25 to 30: judge, kinds, states, whose, laws, film. */
final class ToldTest {
    private static final int BYTES = 0, SHORTS = 1, INTS = 2;

    private ToldTest() {
    }

    public static void main(String[] args) {
        judge();
        judgeBySorts();
        refusalsInOrder();
        kinds();
        states();
        statesOfCold();
        whose();
        laws();
        film();
        filmRefusals();
        Checks.finish();
    }

    private static void judge() {
        CoalIsLent x = Checks.withHuts(0, 6002, 0, 1000);
        String before = Checks.all(x);
        Checks.fill(x, 0, INTS, 68, 76, 74);
        Checks.due("as told", x.judge(0, 0), -1);
        Checks.due("not of another", x.judge(0, 1), 0);
        Checks.fill(x, 0, INTS, 68, 77, 74);
        Checks.due("number 1", x.judge(0, 0), 1);
        Checks.fill(x, 0, INTS, 68, 76, 74, 72, 71, 3);
        Checks.due("number 4", x.judge(0, 0), 4);
        Checks.fill(x, 0, INTS);
        Checks.due("nothing told", x.judge(0, 0), -1);
        x.sheet(0, INTS, 20);
        for (int i = 0; i < 20; i++) x.cell(0, i, i < 5 ? 8 - 2 * i : 0);
        Checks.due("20 numbers", x.judge(0, 1), -1);
        x.cell(0, 19, 1);
        Checks.due("the last one", x.judge(0, 1), 19);
        Checks.same("judge()", before, x);
    }

    private static void judgeBySorts() {
        CoalIsLent x = Checks.withHuts(0, 20000, 0, 10000);
        Checks.fill(x, 0, BYTES, 198);
        Checks.due("a byte has 8 bits, one for below 0", x.judge(0, 0), 0);
        Checks.fill(x, 0, BYTES, 98 + 256);
        Checks.due("the lowest 8", x.judge(0, 1), -1);
        Checks.fill(x, 0, SHORTS, 198 - 65536);
        Checks.due("the lowest 16", x.judge(0, 0), -1);
        Checks.fill(x, 0, INTS, 198 - 65536);
        Checks.due("all 32", x.judge(0, 0), 0);
    }

    /** All that judges by a SHEET, with what else it wants being fine, or not. */
    private static void refusals(CoalIsLent x, int s, int h, int due, int dueOfWhose) {
        for (int odd : new int[] {0, 9}) {
            Checks.due("kinds(" + s + ", " + h + ")", x.kinds(s, h, odd), due == 0 && odd == 9 ? -7 : due);
            Checks.due("states(" + s + ", " + h + ")", x.states(s, h, odd, 0), due == 0 && odd == 9 ? -7 : due);
        }
        Checks.due("judge(" + s + ", " + h + ")", x.judge(s, h), due);
        Checks.due("laws(" + s + ", " + h + ")", x.laws(s, h), due);
        Checks.due("whose(" + s + ")", x.whose(s), dueOfWhose);
    }

    private static void refusalsInOrder() {
        CoalIsLent x = Checks.withHuts(0, 6002);
        x.sheet(1, INTS, 21);
        x.sheet(2, INTS, 20);
        x.cell(2, 0, -1);
        refusals(x, -1, 1, -2, -2);
        refusals(x, 4, 0, -2, -2);
        refusals(x, 0, 1, -11, -11);
        refusals(x, 0, 0, -11, -11);
        refusals(x, 1, 1, -2, -2);
        refusals(x, 1, 0, -2, -2);
        refusals(x, 2, 1, -5, 0);
        refusals(x, 2, -1, -5, 0);
        refusals(x, 2, 0, 0, 0);
        Checks.due("kinds sort -1", x.kinds(2, 0, -1), -7);
        Checks.due("kinds sort 2", x.kinds(2, 0, 2), -7);
        Checks.due("states sort -1", x.states(2, 0, -1, 0), -7);
        Checks.due("states sort 3", x.states(2, 0, 3, 0), -7);
        Checks.due("states what -1", x.states(2, 0, 0, -1), -7);
        Checks.due("states what 2", x.states(2, 0, 0, 2), -7);
    }

    private static void kinds() {
        CoalIsLent x = Checks.withHuts(7, 6000);
        Checks.fill(x, 0, INTS, 58);
        Checks.due("HUT, GLASS", x.kinds(0, 0, 0), 1 + 32);
        Checks.due("whatever MORE", x.kinds(0, 0, 1), 1023);
        Checks.fill(x, 0, INTS, 59);
        Checks.due("WIDOW, THATCH", x.kinds(0, 0, 0), 2 + 8);
        Checks.due("no MORE", x.kinds(0, 0, 1), 0);
        Checks.fill(x, 0, INTS, 55);
        Checks.due("OVEN, DEBTOR", x.kinds(0, 0, 0), 4 + 16);
        Checks.fill(x, 0, INTS);
        Checks.due("all KINDS", x.kinds(0, 0, 0), 63);
        Checks.underLaw(x, "0", "more", "0");
        String before = Checks.all(x);
        Checks.fill(x, 0, INTS, 57);
        Checks.due("MORE 3", x.kinds(0, 0, 1), 8);
        Checks.fill(x, 0, INTS, 51);
        Checks.due("MORE 9", x.kinds(0, 0, 1), 512);
        Checks.fill(x, 0, INTS, 53);
        Checks.due("MORE stays its own", x.kinds(0, 0, 0), 1 + 32);
        Checks.same("kinds()", before, x);
    }

    private static void states() {
        CoalIsLent x = Checks.withHuts(0, 6005);
        String before = Checks.all(x);
        Checks.fill(x, 0, INTS, 68);
        Checks.due("HEATS", x.states(0, 0, 0, 0), 1);
        Checks.due("the least", x.states(0, 0, 0, 1), 60);
        Checks.due("WOODS", x.states(0, 0, 1, 0), 99);
        Checks.due("the least", x.states(0, 0, 1, 1), 1);
        Checks.fill(x, 0, INTS, 68, 76, 74);
        Checks.due("WOODS", x.states(0, 0, 1, 0), 1);
        Checks.due("the least", x.states(0, 0, 1, 1), 2);
        Checks.fill(x, 0, INTS, 58);
        Checks.due("no WOOD", x.states(0, 0, 1, 0), 1);
        Checks.due("no WOOD", x.states(0, 0, 1, 1), 0);
        x.put(0, 1, 0);
        Checks.fill(x, 0, INTS, 0);
        Checks.due("HEATS", x.states(0, 0, 0, 0), 3);
        Checks.due("the least", x.states(0, 0, 0, 1), 0);
        Checks.fill(x, 0, INTS, 297);
        Checks.due("HEAT 299", x.states(0, 0, 0, 1), 299);
        Checks.fill(x, 0, INTS, 298);
        Checks.due("HEAT 300 is not thought of", x.states(0, 0, 0, 0), 0);
        Checks.due("none", x.states(0, 0, 0, 1), -1);
        x.put(0, 1, 5);
        Checks.same("states()", before, x);
    }

    private static void statesOfCold() {
        CoalIsLent x = Checks.withHuts(0, 6005);
        Checks.fill(x, 0, INTS, 0, 8);
        Checks.due("COLDS", x.states(0, 0, 2, 0), 1);
        Checks.due("the least", x.states(0, 0, 2, 1), 1);
        Checks.fill(x, 0, INTS, 0, 0);
        Checks.due("COLDS", x.states(0, 0, 2, 0), 98);
        Checks.due("the least", x.states(0, 0, 2, 1), 2);
        Checks.fill(x, 0, INTS);
        Checks.due("any COLD", x.states(0, 0, 2, 0), 100);
        Checks.due("any WOOD", x.states(0, 0, 1, 0), 100);
        Checks.due("any HEAT", x.states(0, 0, 0, 0), 300);
    }

    private static void whose() {
        CoalIsLent x = Checks.withHuts(0, 6000, 50, 6000, 0, 6100, 10, 5900);
        Checks.fill(x, 0, INTS, 58);
        Checks.due("whose", x.whose(0), 1 + 2 + 8);
        Checks.fill(x, 0, INTS, 59, 57);
        Checks.due("whose", x.whose(0), 4);
        Checks.fill(x, 0, INTS);
        Checks.due("whose", x.whose(0), 15);
        CoalIsLent y = new CoalIsLent();
        Checks.fill(y, 0, INTS);
        Checks.due("no HUTS", y.whose(0), 0);
    }

    private static void laws() {
        CoalIsLent x = Checks.withHuts(0, 6000);
        Checks.textOf(x, "grows 0;cools 5;burns 0;");
        Checks.textOf(x, "grows 0;cools wood + 2;burns 0;");
        String before = Checks.all(x);
        Checks.fill(x, 0, INTS, 58);
        Checks.due("laws", x.laws(0, 0), 1 + 4);
        Checks.fill(x, 0, INTS, 55, 50);
        Checks.due("laws", x.laws(0, 0), 2);
        Checks.fill(x, 0, INTS);
        Checks.due("laws", x.laws(0, 0), 7);
        Checks.same("laws()", before, x);
    }

    private static void film() {
        CoalIsLent x = Checks.withHuts(0, 6002, 20, 999900);
        String before = Checks.all(x);
        Checks.due("film", x.film(2, 0, 4), 4);
        Checks.due("as it will be", x.judge(2, 0), -1);
        Checks.due("has 4", x.cell(2, 4, 0), -12);
        int[] due = {68, 76, 74, 72};
        for (int i = 0; i < due.length; i++) {
            Checks.fill(x, 0, SHORTS, due);
            x.copy(2, i, 0, i, 1);
            Checks.due("number " + i, x.judge(0, 0), -1);
        }
        Checks.due("they are shorts", x.hutsBy(2, SHORTS, 0, 0), 0);
        Checks.due("no ints", x.hutsBy(2, INTS, 0, 0), -13);
        Checks.due("film of much HEAT", x.film(2, 1, 20), 20);
        Checks.due("as it will be", x.judge(2, 1), -1);
        Checks.due("has 20", x.cell(2, 20, 0), -12);
        Checks.due("film of none", x.film(2, 1, 0), 0);
        Checks.due("has none", x.cell(2, 0, 0), -12);
        Checks.same("film()", before, x);
    }

    private static void filmRefusals() {
        CoalIsLent x = Checks.withHuts(0, 6002);
        Checks.fill(x, 0, INTS, 68, 76);
        Checks.due("no SHEET -1, ahead of the others", x.film(-1, 5, 99), -2);
        Checks.due("no SHEET 4", x.film(4, 0, 1), -2);
        Checks.due("no HUT 1, ahead of n", x.film(0, 1, 21), -5);
        Checks.due("no HUT -1", x.film(0, -1, 1), -5);
        Checks.due("n -1", x.film(0, 0, -1), -7);
        Checks.due("n 21", x.film(0, 0, 21), -7);
        Checks.due("the SHEET is as it was", x.hutsBy(0, INTS, 0, 0), 0);
        Checks.due("the SHEET is as it was", x.judge(0, 0), -1);
        Checks.due("a missing one stays so", x.film(1, 0, 21), -7);
        Checks.due("a missing one stays so", x.judge(1, 0), -11);
    }
}
