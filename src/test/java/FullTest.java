/** Promises 2 to 39, of what is full: 6 HUTS, 10 LOANS, 6 TEXTS, 160 bytes, SHEETS of 40, 20 NIGHTS told. */
final class FullTest {
    private static final int SHORTS = 1, INTS = 2;
    private static final String STANDS = "grows 1;cools 1;burns 1;";

    private FullTest() {
    }

    public static void main(String[] args) {
        sixHuts7();
        sixHutsOfAll();
        sixHutsInARow();
        sixToAsk21();
        tenLoans10();
        tenHotLoans();
        tenLoansGoOneByOne();
        tenLoansInANight();
        sixTexts4();
        sixTexts29();
        tapeOf160();
        textOf160();
        fortyNumbers();
        twentyTold();
        sixHutsBy38();
        imageOfAll();
        Checks.finish();
    }

    private static CoalIsLent sixHuts() {
        CoalIsLent x = new CoalIsLent();
        for (int h = 0; h < 6; h++) Checks.due("HUT " + h, x.hut(59, 999999), h);
        return x;
    }

    private static void sixHuts7() {
        CoalIsLent x = sixHuts();
        for (int i = 0; i < 3; i++) Checks.due("a seventh", x.hut(0, 0), -4);
        Checks.due("HUTS", x.count(0), 6);
        x.image();
        Checks.due("back to six", x.back(), 6);
        Checks.due("a seventh", x.hut(0, 0), -4);
        // one is none by back(), so that there is room
        CoalIsLent y = Checks.withHuts(0, 0, 0, 0, 0, 0, 0, 0, 0, 0);
        y.image();
        Checks.due("the sixth", y.hut(11, 202), 5);
        Checks.due("a seventh", y.hut(0, 0), -4);
        y.back();
        Checks.due("the sixth anew", y.hut(22, 303), 5);
        Checks.due("KIND", y.told(5, 3), 2);
        Checks.due("a seventh", y.hut(0, 0), -4);
    }

    private static void sixHutsOfAll() {
        CoalIsLent x = sixHuts();
        Checks.due("HEAT of all", x.count(3), 59994);
        Checks.due("HEAT of all in thought", x.run(0, 0), 59994);
        Checks.due("HEAT of the last", x.run(0, 15), 9999);
        Checks.due("no HUT 6", x.run(0, 16), -2);
        Checks.due("of like ones the first", x.worst(0, 0), 0);
        Checks.due("HEAT of all others", x.worst(0, 1), 49995);
        Checks.fill(x, 0, INTS, 9997);
        Checks.due("all six", x.whose(0), 63);
        for (int h = 0; h < 6; h++) {
            Checks.due("the last HUT is one", x.told(h, 3), 5);
            Checks.due("taken", x.taken(h, 5), h);
            Checks.due("taken HEAT", x.taken(6 + h, 6), 9999);
        }
    }

    /** A fire that came by all six, and then a ring of them. */
    private static void sixHutsInARow() {
        CoalIsLent x = Worlds.calm(0, 10000, 0, 10000, 0, 10000, 0, 10000, 0, 10000, 0, 10000);
        for (int h = 4; h >= 0; h--) x.lend(10 * h + h + 1, 109);
        for (int h = 0; h < 6; h++) Checks.due("source(" + h + ")", x.source(h), (1 << h) - 1);
        Checks.due("no ring", x.rings(0), 0);
        Checks.due("from none", x.rings(1), 1);
        x.lend(50, 109);
        for (int h = 0; h < 6; h++) Checks.due("source(" + h + ") in a ring", x.source(h), 63);
        Checks.due("a ring of six", x.rings(0), 63);
        Checks.due("from none", x.rings(1), 0);
        CoalIsLent y = Worlds.calm(0, 10000, 0, 10000, 0, 10000, 0, 10000, 0, 10000, 0, 10000);
        for (int h = 0; h < 5; h++) y.lend(10 * h + h + 1, 109);
        for (int h = 0; h < 6; h++) Checks.due("source(" + h + "), told the other way", y.source(h), (1 << h) - 1);
        y.lend(50, 109);
        for (int h = 0; h < 6; h++) Checks.due("source(" + h + ") in a ring, told the other way", y.source(h), 63);
        Checks.due("a ring of six, told the other way", y.rings(0), 63);
        // nets: -5, then 5 of 1 each
        CoalIsLent z = Worlds.calm(0, 0, 0, 100, 0, 100, 0, 100, 0, 100, 0, 100);
        for (int h = 1; h < 6; h++) z.lend(10 * h, 109);
        Checks.due("five payments", z.settle(0), 5);
        Checks.due("together", z.settle(1), 5);
    }

    private static void sixToAsk21() {
        CoalIsLent x = Worlds.calm(0, 10000, 0, 10000, 0, 10000, 0, 10000, 0, 10000, 0, 10000);
        for (int h = 0; h < 6; h++) {
            Checks.due("of like ones the first", x.ask(h, 101, 0), h == 0 ? 1 : 0);
            Checks.due("HEAT of all", x.ask(h, 139, 1), 600);
            Checks.due("nobody has so much", x.ask(h, 10101, 0), -1);
        }
        x.put(5, 0, 101);
        Checks.due("but the last", x.ask(0, 10101, 0), 5);
        Checks.due("who can't ask itself", x.ask(5, 10101, 0), -1);
    }

    private static CoalIsLent tenLoans() {
        CoalIsLent x = Worlds.calm(0, 10000, 0, 10000);
        for (int k = 0; k < 10; k++) Checks.due("LOAN " + k, x.lend(1, 101 + 100 * k + k), k);
        return x;
    }

    private static void tenLoans10() {
        CoalIsLent x = tenLoans();
        for (int i = 0; i < 3; i++) Checks.due("an eleventh", x.lend(1, 101), -4);
        Checks.due("LOANS", x.count(1), 10);
        for (int k = 0; k < 10; k++) {
            Checks.due("COAL " + k, x.loan(k, 2), 1 + k);
            Checks.due("DUE " + k, x.loan(k, 3), 1 + k);
        }
        Checks.due("no LOAN 10", x.loan(10, 0), -5);
        Checks.due("LOANS from it", x.told(0, 7), 10);
        Checks.due("nobody to ask", x.ask(0, 101, 0), -1);
        Checks.due("the last goes", x.forgive(9), 10);
        Checks.due("somebody to ask", x.ask(0, 101, 0), 1);
        Checks.due("room for one", x.lend(10, 299), 9);
        Checks.due("and no more", x.lend(10, 101), -4);
        Checks.due("the first is REPAID", x.repay(0), 1);
        Checks.due("room for one", x.lend(10, 101), 9);
        Checks.due("what was the last", x.loan(8, 3), 99);
    }

    private static void tenHotLoans() {
        CoalIsLent x = Worlds.calm(0, 0, 0, 0);
        for (int k = 0; k < 10; k++) {
            x.put(0, 0, 9999);
            Checks.due("the hottest for the longest", x.lend(1, 999999), k);
        }
        Checks.due("owes", x.told(1, 5), 99990);
        Checks.due("is owed", x.told(0, 6), 99990);
        Checks.due("LOANS from it", x.told(0, 7), 10);
        Checks.due("net", x.net(0), 99990);
        Checks.due("net", x.net(1), -99990);
        Checks.due("one payment", x.settle(0), 1);
        Checks.due("of all", x.settle(1), 99990);
        Checks.underLaw(x, "owed < 9999", "owed - 9999*10 + 7", "owed = 9999*10");
        Checks.due("owed", x.asks(0, 1, 0), 0);
        Checks.due("owed", x.asks(1, 1, 0), 7);
        Checks.due("owed", x.asks(2, 1, 0), 1);
        Checks.due("not owed", x.asks(2, 0, 0), 0);
        Checks.due("HEAT 9999 repays one of them", x.repay(9), 9999);
        Checks.due("and no other", x.repay(8), -3);
    }

    private static void tenLoansGoOneByOne() {
        for (int first = 0; first < 10; first++) {
            CoalIsLent x = tenLoans();
            Checks.due("forgive(" + first + ")", x.forgive(first), 1 + first);
            Checks.due("nine", x.count(1), 9);
            for (int k = 0; k < 9; k++) {
                Checks.due("COAL " + k, x.loan(k, 2), k < first ? 1 + k : 2 + k);
                Checks.due("DUE " + k, x.loan(k, 3), k < first ? 1 + k : 2 + k);
            }
            Checks.due("no LOAN 9", x.loan(9, 0), -5);
        }
    }

    private static void tenLoansInANight() {
        CoalIsLent x = Worlds.calm(0, 10000, 0, 10000, 0, 10000, 0, 10000, 0, 10000, 0, 10000);
        for (int k = 0; k < 10; k++) x.lend(k < 5 ? 10 * k + k + 1 : 50 + k % 5, 1001);
        x.night();
        for (int h = 0; h < 6; h++) x.put(h, 0, 0);
        // by numbers, 1, 2, 3, 4 and 5, then 0, 1, 2, 3, 4 again can't repay
        Checks.due("all FAILED", x.night(), 63);
        Checks.due("no LOANS", x.count(1), 0);
        for (int h = 0; h < 6; h++) Checks.due("COLD", x.told(h, 2), 19);
        CoalIsLent y = Worlds.calm(0, 10000, 0, 10000, 0, 10000, 0, 10000, 0, 10000, 0, 10000);
        for (int k = 0; k < 10; k++) y.lend(k < 5 ? 10 * k + k + 1 : 50 + k % 5, 1001);
        y.night();
        Checks.due("none FAILED", y.night(), 0);
        Checks.due("all REPAID", y.count(1), 0);
        for (int h = 0; h < 6; h++) Checks.due("HEAT as at first", y.told(h, 0), 100);
    }

    private static void sixTexts4() {
        CoalIsLent x = Checks.withHuts(0, 0);
        for (int t = 1; t < 6; t++) {
            Checks.due("TEXT " + t, Checks.textOf(x, "grows " + t + ";cools " + 2 * t + ";burns " + 3 * t + ";"), t);
        }
        Checks.due("TEXTS", x.count(4), 6);
        Checks.feedAll(x, STANDS);
        for (int i = 0; i < 3; i++) Checks.due("a seventh", x.text(), -4);
        Checks.due("THE TAPE stays", x.count(6), 24);
        Checks.due("and takes more", x.feed(5, 1, 2, 3, 4, 5), 29);
        Checks.due("force(6)", x.force(6), -2);
        for (int t = 5; t >= 0; t--) {
            Checks.due("force", x.force(t), t == 5 ? 0 : t + 1);
            int[] due = t == 0 ? new int[] {1, 2, 10} : new int[] {t, 2 * t, 3 * t};
            for (int part = 0; part < 3; part++) Checks.due("TEXT " + t, x.asks(part, 0, 0), due[part]);
        }
    }

    private static void sixTexts29() {
        CoalIsLent x = Checks.withHuts(0, 10000);
        for (int t = 1; t < 6; t++) Checks.textOf(x, "grows 0;cools " + (t < 5 ? t : 2) + ";burns 0;");
        Checks.fill(x, 0, INTS, 98);
        Checks.due("TEXTS 0, 2, 5", x.laws(0, 0), 1 + 4 + 32);
        Checks.fill(x, 0, INTS);
        Checks.due("all six", x.laws(0, 0), 63);
    }

    private static void tapeOf160() {
        CoalIsLent x = new CoalIsLent();
        for (int i = 1; i <= 32; i++) Checks.due("feed", x.feed(5, 32, 32, 32, 32, 32), 5 * i);
        for (int n = 1; n <= 5; n++) Checks.due("no room for " + n, x.feed(n, 32, 32, 32, 32, 32), -4);
        Checks.due("160 blanks end too early", x.text(), -260);
        for (int room = 1; room <= 4; room++) {
            Checks.feedAll(x, " ".repeat(160 - room));
            for (int n = room + 1; n <= 5; n++) Checks.due("room for " + room, x.feed(n, 'x', 32, 32, 32, 32), -4);
            Checks.due("none comes", x.count(6), 160 - room);
            Checks.due("but as many as have room", x.feed(room, 32, 32, 32, 32, 'x'), 160);
            Checks.due("that is what came", x.text(), -260);
        }
        Checks.feedAll(x, " ".repeat(159));
        Checks.due("the last byte", x.feed(1, 'x', 'y', 'y', 'y', 'y'), 160);
        Checks.due("its place", x.text(), -259);
    }

    private static void textOf160() {
        String all = "grows " + "-".repeat(5) + "1" + "+1".repeat(65) + ";cools 7;burns 8;";
        Checks.due("159 bytes", all.length(), 159);
        CoalIsLent x = Checks.withHuts(0, 0);
        Checks.due("a TEXT of 160 bytes", Checks.textOf(x, all + "\n"), 1);
        x.force(1);
        Checks.due("grows", x.asks(0, 0, 0), 64);
        Checks.due("cools", x.asks(1, 0, 0), 7);
        Checks.due("burns", x.asks(2, 0, 0), 8);
        Checks.due("it is the last byte that is missing", Checks.textOf(x, " " + all.substring(0, 158)), -259);
        Checks.due("and 160 without an end", Checks.textOf(x, " " + all.substring(0, 158) + "+"), -260);
        Checks.due("a byte too much", Checks.textOf(x, all + "x"), -259);
        Checks.due("as many TOKENS as can be", Checks.textOf(x, "grows " + "1+".repeat(68) + "1;cools 1;burns 1;"), 2);
        x.force(2);
        Checks.due("grows", x.asks(0, 0, 0), 69);
        Checks.due("cools", x.asks(1, 0, 0), 1);
        Checks.due("burns", x.asks(2, 0, 0), 1);
        String nots = "grows" + "(not 1<1 or 1)*".repeat(9) + "1;cools0;burns0;";
        Checks.due("as much of all", Checks.textOf(x, nots), 3);
        x.force(3);
        Checks.due("grows", x.asks(0, 0, 0), 1);
    }

    private static void fortyNumbers() {
        CoalIsLent x = new CoalIsLent();
        for (int sort = 0; sort < 3; sort++) {
            Checks.due("40 numbers", x.sheet(sort, sort, 40), 1);
            Checks.due("are 40", Whole.sizeOf(x, sort), 40);
            Checks.due("of a sort", Whole.sortOf(x, sort), sort);
            for (int i = 0; i < 40; i++) Checks.due("cell", x.cell(sort, i, i % 60), 1);
            Checks.due("no cell 40", x.cell(sort, 40, 1), -12);
        }
        x.sheet(3, INTS, 40);
        Checks.due("all 40", x.copy(2, 0, 3, 0, 40), 40);
        Checks.due("onto itself", x.copy(2, 0, 2, 0, 40), 40);
        Checks.due("39 on by one", x.copy(3, 0, 3, 1, 39), 39);
        Checks.due("the last to the first", x.copy(2, 39, 3, 0, 1), 1);
        Checks.due("the last pair", x.hutsBy(3, INTS, 38, 1), 1);
        Checks.due("its KIND and MORE", 10 * x.told(0, 3) + x.told(0, 4), 37);
        Checks.due("its WOOD", x.told(0, 1), 38);
        Checks.due("the first pair", x.hutsBy(3, INTS, 0, 1), 1);
        Checks.due("its KIND and MORE", 10 * x.told(1, 3) + x.told(1, 4), 39);
        Checks.due("its WOOD", x.told(1, 1), 0);
        Checks.due("the last pair of the other", x.hutsBy(2, INTS, 38, 1), 1);
        Checks.due("its WOOD", x.told(2, 1), 39);
        Checks.due("half a pair", x.hutsBy(2, INTS, 39, 1), -12);
    }

    private static void twentyTold() {
        CoalIsLent x = Checks.withHuts(0, 999900, 11, 30005);
        for (int h = 0; h < 2; h++) {
            Checks.due("film of 20 NIGHTS", x.film(0, h, 20), 20);
            Checks.due("has 20", Whole.sizeOf(x, 0), 20);
            Checks.due("is as told", x.judge(0, h), -1);
            Checks.due("whose", x.whose(0), 1 << h);
            Checks.due("by which THE LAW", x.laws(0, h), 1);
            Checks.due("not the other's", x.judge(0, 1 - h), 0);
        }
        for (int i = 0; i < 20; i++) {
            x.film(0, 0, 20);
            x.cell(0, i, x.run(i + 1, 10) + 1);
            Checks.due("number " + i + " is otherwise", x.judge(0, 0), i);
        }
        x.sheet(0, SHORTS, 21);
        Checks.due("21 are too many", x.judge(0, 0), -2);
        x.sheet(0, SHORTS, 40);
        Checks.due("40 are too many", x.whose(0), -2);
    }

    private static void sixHutsBy38() {
        CoalIsLent x = new CoalIsLent();
        Checks.fill(x, 0, SHORTS, 0, 100, 1, 101, 12, 102, 23, 203, 34, 304, 59, 405, 0, 0);
        Checks.due("six of six", x.hutsBy(0, SHORTS, 0, 6), 6);
        Checks.due("the last", x.told(5, 0), 4);
        Checks.due("no room for any", x.hutsBy(0, SHORTS, 0, 6), 0);
        CoalIsLent y = new CoalIsLent();
        Checks.fill(y, 0, INTS, 59, 999999, 60, 0, 0, 1000000, -1, 0, 0, -1, 0, 0);
        Checks.due("two of six, others are left out", y.hutsBy(0, INTS, 0, 6), 2);
        Checks.due("two", y.count(0), 2);
        Checks.due("the first", y.told(0, 1), 99);
        Checks.due("the last", y.told(1, 1), 0);
        CoalIsLent z = Checks.withHuts(0, 0, 0, 0, 0, 0, 0, 0, 0, 0);
        Checks.due("room for one of three", z.sheet(0, INTS, 6) + z.hutsBy(0, INTS, 0, 3), 2);
        Checks.due("six", z.count(0), 6);
    }

    private static void imageOfAll() {
        CoalIsLent x = Worlds.fullOfTexts();
        x.force(4);
        for (int i = 0; i < 3; i++) x.night();
        String kept = Checks.all(x);
        Checks.due("image of all", x.image(), 6);
        for (int k = x.count(1) - 1; k >= 0; k--) x.forgive(k);
        for (int h = 0; h < 6; h++) {
            for (int what = 0; what < 3; what++) x.put(h, what, 98 - h);
        }
        x.force(1);
        x.night();
        Checks.due("back", x.back(), 6);
        Checks.same("image of all, and back", kept, x);
    }
}
