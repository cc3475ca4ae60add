/**
 * Promises 1 to 39, of what is empty: no HUTS, no LOANS, an empty TAPE, a SHEET of no numbers, a missing SHEET, no
 * IMAGE, no NIGHTS.
 */
final class EmptyTest {
    private static final int INTS = 2;

    private EmptyTest() {
    }

    public static void main(String[] args) {
        aNewObject1();
        noHuts2To13();
        noHuts14To24();
        noHuts25To34();
        noHuts35To39();
        oneHutAlone();
        noLoans();
        anEmptyTape4();
        anEmptySheet25To29();
        anEmptySheet30();
        anEmptySheet35To38();
        noImage33And34();
        anEmptyImage33And34();
        noNights();
        Checks.finish();
    }

    private static void fresh(String what, long due, Whole.Call call) {
        Checks.due("new: " + what, call.on(new CoalIsLent()), due);
    }

    private static void aNewObject1() {
        fresh("no HUTS", 0, x -> x.count(0));
        fresh("no LOANS", 0, x -> x.count(1));
        fresh("NIGHT", 0, x -> x.count(2));
        fresh("HEAT of all", 0, x -> x.count(3));
        fresh("TEXTS", 1, x -> x.count(4));
        fresh("THE LAW", 0, x -> x.count(5));
        fresh("bytes of THE TAPE", 0, x -> x.count(6));
        for (int s = 0; s < 4; s++) {
            int one = s;
            fresh("all SHEETS are missing", -11, x -> x.cell(one, 0, 0));
        }
        fresh("no IMAGE", -3, x -> x.back());
        // two objects have nothing of one another
        CoalIsLent x = Worlds.some();
        Checks.due("the other one", x.count(0), 3);
        fresh("no HUTS", 0, y -> y.count(0));
    }

    private static void noHuts2To13() {
        fresh("feed(1)", 1, x -> x.feed(1, 0, 0, 0, 0, 0));
        fresh("text()", -100, x -> x.text());
        fresh("force(0)", 0, x -> x.force(0));
        fresh("asks", -2, x -> x.asks(0, 0, 0));
        fresh("hut", 0, x -> x.hut(0, 0));
        fresh("put", -5, x -> x.put(0, 0, 0));
        fresh("told", -5, x -> x.told(0, 0));
        fresh("lend(0)", -5, x -> x.lend(0, 101));
        fresh("lend(1)", -5, x -> x.lend(1, 101));
        fresh("loan", -5, x -> x.loan(0, 0));
        fresh("repay", -5, x -> x.repay(0));
        fresh("forgive", -5, x -> x.forgive(0));
    }

    private static void noHuts14To24() {
        fresh("night()", 0, x -> x.night());
        fresh("NIGHT goes by without HUTS", 1, x -> {
            x.night();
            return x.count(2);
        });
        for (int n : new int[] {0, 1, 40}) {
            for (int what = 0; what < 3; what++) {
                int w = what;
                fresh("run(" + n + ", " + w + ")", 0, x -> x.run(n, w));
            }
            fresh("run(" + n + ", 10)", -2, x -> x.run(n, 10));
            fresh("mercy(" + n + ", 0)", -1, x -> x.mercy(n, 0));
            fresh("mercy(" + n + ", 1)", 0, x -> x.mercy(n, 1));
            fresh("worst(" + n + ", 0)", -1, x -> x.worst(n, 0));
            fresh("worst(" + n + ", 1)", -1, x -> x.worst(n, 1));
        }
        fresh("lasts", -5, x -> x.lasts(0, 0));
        fresh("net", -1000000, x -> x.net(0));
        fresh("settle(0)", 0, x -> x.settle(0));
        fresh("settle(1)", 0, x -> x.settle(1));
        fresh("source", -5, x -> x.source(0));
        fresh("rings(0)", 0, x -> x.rings(0));
        fresh("rings(1)", 0, x -> x.rings(1));
        fresh("ask", -5, x -> x.ask(0, 101, 0));
        fresh("needs", -5, x -> x.needs(0, 0));
    }

    private static void noHuts25To34() {
        Whole.Call sheet = x -> x.sheet(0, INTS, 2);
        fresh("judge, the SHEET missing", -11, x -> x.judge(0, 0));
        fresh("judge", -5, x -> sheet.on(x) == 1 ? x.judge(0, 0) : 0);
        fresh("kinds", -5, x -> sheet.on(x) == 1 ? x.kinds(0, 0, 0) : 0);
        fresh("states", -5, x -> sheet.on(x) == 1 ? x.states(0, 0, 0, 0) : 0);
        fresh("laws", -5, x -> sheet.on(x) == 1 ? x.laws(0, 0) : 0);
        fresh("whose", 0, x -> sheet.on(x) == 1 ? x.whose(0) : 9);
        fresh("film", -5, x -> x.film(0, 0, 0));
        for (int seed : new int[] {0, 99999}) {
            fresh("drawn(" + seed + ", 999, 0)", 0, x -> x.drawn(seed, 999, 0));
            fresh("drawn(" + seed + ", 999, 1)", 0, x -> x.drawn(seed, 999, 1));
            fresh("odds of 0 or more, above", 1, x -> x.odds(seed, 40, 999, 0, 0));
            fresh("odds of 0 or more, below", 1, x -> x.odds(seed, 40, 999, 0, 1));
            fresh("odds of 1 or more, above", 0, x -> x.odds(seed, 40, 999, 1, 0));
            fresh("odds of 1 or more, below", 1, x -> x.odds(seed, 40, 999, 1, 1));
        }
        fresh("nothing happens, not a NIGHT", 0, x -> {
            x.drawn(0, 0, 0);
            return x.count(2);
        });
        fresh("image()", 0, x -> x.image());
    }

    private static void noHuts35To39() {
        fresh("a missing SHEET: cell", -11, x -> x.cell(0, 0, 0));
        fresh("a missing SHEET: copy", -11, x -> x.copy(0, 0, 1, 0, 0));
        fresh("a missing SHEET: hutsBy of none", -11, x -> x.hutsBy(0, 0, 0, 0));
        fresh("a missing SHEET: whose", -11, x -> x.whose(0));
        for (int h = 0; h < 6; h++) {
            int i = h;
            fresh("taken HUT", -11, x -> x.taken(i, 0));
            fresh("taken HEAT", -11, x -> x.taken(6 + i, 6));
        }
    }

    private static void oneHutAlone() {
        CoalIsLent x = Worlds.calm(0, 5000);
        Checks.due("nobody to lend to", x.lend(0, 101), -5);
        Checks.due("nobody to lend to", x.lend(1, 101), -5);
        Checks.due("nobody to ask", x.ask(0, 101, 0), -1);
        Checks.due("nobody to ask", x.ask(0, 101, 1), -1);
        Checks.due("it is the worst", x.worst(40, 0), 0);
        Checks.due("HEAT of no others", x.worst(40, 1), 0);
        Checks.due("all snow is its own, five times 10", x.drawn(99999, 10, 1), 0);
        Checks.due("all snow is its own, five times 9", x.drawn(99999, 9, 1), 5);
    }

    private static void noLoans() {
        CoalIsLent x = Checks.withHuts(3, 5007, 0, 0);
        for (int k = 0; k < 2; k++) {
            for (int what = 0; what < 4; what++) Checks.due("loan", x.loan(k, what), -5);
            Checks.due("repay", x.repay(k), -5);
            Checks.due("forgive", x.forgive(k), -5);
        }
        for (int what = 5; what < 8; what++) Checks.due("told(0, " + what + ")", x.told(0, what), 0);
        Checks.due("net", x.net(0), 0);
        Checks.due("settle(0)", x.settle(0), 0);
        Checks.due("settle(1)", x.settle(1), 0);
        Checks.due("source", x.source(0), 0);
        Checks.due("rings(0)", x.rings(0), 0);
        Checks.due("rings(1)", x.rings(1), 0);
        Checks.due("none FAILS", x.run(40, 1), 0);
        Checks.due("LOANS then", x.run(40, 2), 0);
        Checks.due("never FAILED", x.lasts(1, 0), -1);
        Checks.due("no WOOD needed", x.needs(1, 40), 0);
        Checks.due("no LOAN to let go", x.mercy(40, 0), -1);
        Checks.due("none FAILS", x.mercy(40, 1), 0);
        Checks.due("owed", Checks.underLaw(x, "owed", "owed + 1", "owed").asks(1, 0, 0), 1);
    }

    private static void anEmptyTape4() {
        CoalIsLent x = new CoalIsLent();
        Checks.due("an empty TAPE ends too early at 0", x.text(), -100);
        Checks.due("again", x.text(), -100);
        Checks.due("no TEXT came", x.count(4), 1);
        Checks.due("one blank", Checks.textOf(x, " "), -101);
        Checks.due("blanks alone", Checks.textOf(x, "\n \n "), -104);
        Checks.due("empty behind a FAULT", x.text(), -100);
        Checks.due("a TEXT", Checks.textOf(x, "grows 1;cools 1;burns 1;"), 1);
        Checks.due("empty behind a TEXT", x.text(), -100);
    }

    private static void anEmptySheet25To29() {
        for (int sort = 0; sort < 3; sort++) {
            CoalIsLent x = Checks.withHuts(0, 5000, 53, 9900, 30, 30000);
            x.sheet(1, sort, 0);
            for (int h = 0; h < 3; h++) {
                Checks.due("judge", x.judge(1, h), -1);
                Checks.due("kinds", x.kinds(1, h, 0), 63);
                Checks.due("MORE", x.kinds(1, h, 1), 1023);
                Checks.due("HEAT", x.states(1, h, 0, 0), 300);
                Checks.due("WOOD", x.states(1, h, 1, 0), 100);
                Checks.due("COLD", x.states(1, h, 2, 0), 100);
                for (int what = 0; what < 3; what++) Checks.due("the least", x.states(1, h, what, 1), 0);
                Checks.due("laws", x.laws(1, h), 1);
            }
            Checks.due("whose", x.whose(1), 7);
        }
    }

    private static void anEmptySheet30() {
        CoalIsLent x = Checks.withHuts(0, 5000);
        Checks.fill(x, 1, INTS, 3, 4, 5);
        Checks.due("film of 0 NIGHTS", x.film(1, 0, 0), 0);
        Checks.due("it is of shorts", Whole.sortOf(x, 1), 1);
        Checks.due("of none", Whole.sizeOf(x, 1), 0);
        Checks.due("as told", x.judge(1, 0), -1);
        Checks.due("film of 0 NIGHTS by a missing SHEET", x.film(2, 0, 0), 0);
        Checks.due("is not missing then", x.judge(2, 0), -1);
    }

    private static void anEmptySheet35To38() {
        CoalIsLent x = new CoalIsLent();
        for (int sort = 0; sort < 3; sort++) {
            Checks.due("a SHEET of no numbers", x.sheet(sort, sort, 0), 1);
            Checks.due("cell", x.cell(sort, 0, 0), -12);
            Checks.due("copy of none", x.copy(sort, 0, sort, 0, 0), 0);
            Checks.due("copy of one", x.copy(sort, 0, sort, 0, 1), -12);
            Checks.due("copy of none from 1", x.copy(sort, 1, sort, 0, 0), -12);
            Checks.due("hutsBy of none", x.hutsBy(sort, sort, 0, 0), 0);
            Checks.due("hutsBy of one", x.hutsBy(sort, sort, 0, 1), -12);
        }
        x.sheet(0, INTS, 3);
        Checks.due("of none to the end", x.copy(2, 0, 0, 3, 0), 0);
        Checks.due("of none behind the end", x.copy(2, 0, 0, 4, 0), -12);
        Checks.due("of one", x.copy(2, 0, 0, 0, 1), -12);
        Checks.due("to where none is", x.copy(0, 0, 2, 0, 1), -12);
        x.sheet(1, INTS, 1);
        Checks.due("half a pair", x.hutsBy(1, INTS, 0, 1), -12);
        Checks.due("half a pair, none of them", x.hutsBy(1, INTS, 0, 0), 0);
        Checks.due("no HUT came", x.count(0), 0);
    }

    private static void noImage33And34() {
        CoalIsLent x = Checks.withHuts(0, 5000);
        Checks.due("no IMAGE", x.back(), -3);
        Checks.due("and none by that", x.back(), -3);
        Checks.due("image", x.image(), 1);
        Checks.due("back", x.back(), 1);
        Checks.due("the IMAGE stays", x.back(), 1);
    }

    private static void anEmptyImage33And34() {
        CoalIsLent x = new CoalIsLent();
        Checks.due("image of nothing", x.image(), 0);
        x.hut(43, 5005);
        x.hut(12, 999999);
        x.put(0, 2, 9);
        x.put(1, 2, 99);
        x.lend(10, 101);
        x.put(1, 2, 0);
        x.lend(10, 101);
        x.put(1, 2, 99);
        x.night();
        Checks.due("back to nothing", x.back(), 0);
        for (int what = 0; what < 4; what++) Checks.due("count(" + what + ")", x.count(what), 0);
        Checks.due("HUTS that came since are none", x.told(0, 0), -5);
        Checks.due("LOANS, too", x.loan(0, 0), -5);
        Checks.due("one comes anew", x.hut(0, 307), 0);
        int[] due = {3, 7, 0, 0, 0, 0, 0, 0};
        for (int what = 0; what < 8; what++) Checks.due("told(0, " + what + ")", x.told(0, what), due[what]);
        Checks.due("COLD is 0 as one comes", x.hut(59, 999999), 1);
        Checks.due("COLD", x.told(1, 2), 0);
    }

    private static void noNights() {
        CoalIsLent x = Checks.withHuts(0, 5000, 50, 0, 30, 99902);
        x.lend(21, 4009);
        Checks.due("HEAT of all now", x.run(0, 0), x.count(3));
        Checks.due("none FAILED", x.run(0, 1), 0);
        Checks.due("LOANS now", x.run(0, 2), 1);
        for (int h = 0; h < 3; h++) Checks.due("HEAT now", x.run(0, 10 + h), x.told(h, 0));
        Checks.due("no WOOD for no NIGHT", x.needs(1, 0), 0);
        Checks.due("no LOAN for no NIGHT", x.mercy(0, 0), -1);
        Checks.due("none FAILS in no NIGHT", x.mercy(0, 1), 0);
        Checks.due("the hottest now", x.worst(0, 0), 2);
        Checks.due("HEAT of the others now", x.worst(0, 1), 90);
    }
}
