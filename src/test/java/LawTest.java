/** Promises 1 to 8: a new object, count, feed, text, force, asks, hut, put, told. */
final class LawTest {
    private LawTest() {
    }

    public static void main(String[] args) {
        aNewObject();
        count();
        feed();
        textsThatStand();
        faults();
        tooManyOpen();
        textsAreFew();
        force();
        asksValues();
        asksNames();
        asksRefusals();
        hut();
        put();
        told();
        Checks.finish();
    }

    private static void aNewObject() {
        CoalIsLent x = new CoalIsLent();
        long[] due = {0, 0, 0, 0, 1, 0, 0};
        for (int what = 0; what < due.length; what++) Checks.due("new: count(" + what + ")", x.count(what), due[what]);
        Checks.due("new: told(0, 0)", x.told(0, 0), -5);
        Checks.due("new: loan(0, 0)", x.loan(0, 0), -5);
        Checks.due("new: back()", x.back(), -3);
        for (int s = 0; s < 4; s++) Checks.due("new: cell(" + s + ", 0, 0)", x.cell(s, 0, 0), -11);
    }

    private static void count() {
        CoalIsLent x = Checks.withHuts(0, 6005, 14, 25010, 22, 8003);
        x.lend(10, 303);
        x.night();
        x.night();
        Checks.feedAll(x, "grows 1;cools 1;burns 1;");
        x.text();
        x.force(1);
        Checks.feedAll(x, "abcd");
        Checks.due("count(0)", x.count(0), 3);
        Checks.due("count(1)", x.count(1), 1);
        Checks.due("count(2)", x.count(2), 2);
        Checks.due("count(3)", x.count(3), x.told(0, 0) + x.told(1, 0) + x.told(2, 0));
        Checks.due("count(4)", x.count(4), 2);
        Checks.due("count(5)", x.count(5), 1);
        Checks.due("count(6)", x.count(6), 4);
        Checks.due("count(-1)", x.count(-1), -2);
        Checks.due("count(7)", x.count(7), -2);
    }

    private static void feed() {
        CoalIsLent x = new CoalIsLent();
        Checks.due("feed n 0", x.feed(0, 1, 1, 1, 1, 1), -2);
        Checks.due("feed n 6", x.feed(6, 1, 1, 1, 1, 1), -2);
        for (int i = 0; i < 5; i++) {
            for (int v : new int[] {-1, 256}) {
                int[] b = {1, 1, 1, 1, 1};
                b[i] = v;
                Checks.due("feed byte " + i + " " + v, x.feed(1, b[0], b[1], b[2], b[3], b[4]), -2);
            }
        }
        Checks.due("nothing came", x.count(6), 0);
        for (int n = 1, size = 0; n <= 5; n++) {
            size += n;
            Checks.due("feed n " + n, x.feed(n, 0, 255, 0, 255, 0), size);
        }
        for (int i = 0; i < 29; i++) x.feed(5, 1, 2, 3, 4, 5);
        Checks.due("160 bytes", x.count(6), 160);
        Checks.due("the 161st", x.feed(1, 1, 1, 1, 1, 1), -4);
        Checks.due("BAD ahead of FULL", x.feed(1, 1, 1, 1, 1, 256), -2);
        Checks.due("a FAULT", x.text(), -100);
        for (int i = 0; i < 31; i++) x.feed(5, 1, 2, 3, 4, 5);
        x.feed(3, 1, 2, 3, 4, 5);
        Checks.due("none comes", x.feed(3, 1, 2, 3, 4, 5), -4);
        Checks.due("none came", x.count(6), 158);
        Checks.due("but two do", x.feed(2, 1, 2, 3, 4, 5), 160);
        // the bytes come in their order
        CoalIsLent y = new CoalIsLent();
        y.feed(5, 'g', 'r', 'o', 'w', 's');
        y.feed(5, '7', ';', 'c', 'o', 'o');
        y.feed(5, 'l', 's', '8', ';', 'b');
        y.feed(4, 'u', 'r', 'n', 's', 'x');
        y.feed(3, '9', ' ', ';', 'x', 'x');
        Checks.due("by fives", y.text(), 1);
    }

    private static void textsThatStand() {
        String[] all = {
            "grows 1 + coal < 99 ; cools 2 ; burns 10 ;",
            "grows1;cools2;burns3;",
            "\n grows\n1 ; cools 2;burns 3 ; \n ",
            "grows not not 1;cools - - 1;burns((1));",
            "grows 1 < 2 and 2 < 3 or not 1 = 2;cools 1*2*3-4+5;burns 0 or 0 or 1 and 1 and 1;",
            "grows heat;cools wood+night;burns coal*owed-more;",
            "grows(1<2)<3;cools(not 1)+1;burns-(1 or 2)*3;",
            "grows 9999;cools 0000;burns 0001;",
            "grows heat<wood;cools 2and 3;burns 2or heat;",
        };
        for (String t : all) Checks.due("a TEXT: " + t, Checks.textOf(new CoalIsLent(), t), 1);
        CoalIsLent x = new CoalIsLent();
        Checks.feedAll(x, all[0]);
        x.text();
        Checks.due("THE TAPE is empty then", x.count(6), 0);
        Checks.due("and THE LAW as it was", x.count(5), 0);
    }

    private static void faultAt(String bytes, int place) {
        CoalIsLent x = new CoalIsLent();
        Checks.due("FAULT of " + bytes, Checks.textOf(x, bytes), -100 - place);
        Checks.due("an empty TAPE behind it", x.count(6), 0);
        Checks.due("no TEXT more", x.count(4), 1);
    }

    private static void faults() {
        faultAt("", 0);
        faultAt("  \n", 3);
        faultAt("cools 1;", 0);
        faultAt("grows", 5);
        faultAt("grows ", 6);
        faultAt("grows 1", 7);
        faultAt("grows 1 ;  ", 11);
        faultAt("grows 1;cools 1;burns 1", 23);
        faultAt("grows 1;cools 1;burns 1;;", 24);
        faultAt("grows 1;cools 1;burns 1; 1", 25);
        faultAt("grows 1;burns 1;cools 1;", 8);
        faultAt("grows 1;grows 1;", 8);
        faultAt("growsx 1;", 0);
        faultAt("grows heats;", 6);
        faultAt("grows x;", 6);
        faultAt("grows xeat;", 6);
        faultAt("grows hea;", 6);
        faultAt("xrows 1;", 0);
        faultAt("grows 12345;", 6);
        faultAt("grows 00001;", 6);
        faultAt("grows 1 12345;", 8);
        faultAt("grows 2heat;", 7);
        faultAt("grows heat2;", 10);
        faultAt("grows 1 < 2 < 3;", 12);
        faultAt("grows 1 = 2 < 3;", 12);
        faultAt("grows 1 + not 1;", 10);
        faultAt("grows - not 1;", 8);
        faultAt("grows 1 < not 1;", 10);
        faultAt("grows * 1;", 6);
        faultAt("grows + 1;", 6);
        faultAt("grows 1 + ;", 10);
        faultAt("grows );", 6);
        faultAt("grows ();", 7);
        faultAt("grows (1;", 8);
        faultAt("grows 1);", 7);
        faultAt("grows (1));", 9);
        faultAt("grows 1 (2);", 8);
        faultAt("grows 1 not 2;", 8);
        faultAt("grows or 1;", 6);
        faultAt("grows 1 or ;", 11);
        faultAt("grows 1 and or 1;", 12);
        faultAt("grows cools;", 6);
        faultAt("grows\t1;", 5);
        faultAt("grows 1 Or 2;", 8);
        faultAt("grows 1 $ ) 12345 x", 8);
        faultAt("grows ) $", 6);
        faultAt("grows " + (char) 0, 6);
        faultAt("grows " + (char) 255, 6);
        faultAt("grows 1 > 2;", 8);
        faultAt("grows 1 < = 2;", 10);
        faultAt("grows notnot 1;", 6);
    }

    private static void tooManyOpen() {
        faultAt("grows ((((((1))))));cools 1;burns 1;", 11);
        faultAt("grows - - - - - - 1;cools 1;burns 1;", 16);
        faultAt("grows not not not not not not 1;", 26);
        faultAt("grows not ( - ( - ( 1 ) ) );", 18);
        faultAt("grows - - - - - ( 1 );", 16);
        faultAt("grows (((((not 1)))));", 11);
        faultAt("grows (((((-1)))));", 11);
        String[] all = {
            "grows (((((1)))));cools 1;burns 1;",
            "grows - - - - - 1;cools 1;burns 1;",
            "grows not not not not not 1;cools 1;burns 1;",
            "grows not ( - ( - 1 ) );cools 1;burns 1;",
            "grows (((((1-1)))));cools 1;burns 1;",
            "grows -1 + -1 + -1 - -1 * -1 + -1 < -1;cools 1;burns 1;",
            "grows not 1 and not 1 or not 1 and not 1 or not 1 or not 1;cools 1;burns 1;",
            "grows ((((1)+(1))+(1))+(1))+(1)+(1);cools ((((1))));burns 1;",
            "grows (not 1)+(not 1)+(-1)+(-1)+(-(1))+(((((1)))));cools 1;burns 1;",
        };
        for (String t : all) Checks.due("not too many open: " + t, Checks.textOf(new CoalIsLent(), t), 1);
    }

    private static void textsAreFew() {
        CoalIsLent x = new CoalIsLent();
        for (int t = 1; t < 6; t++) {
            Checks.due("a FAULT between", Checks.textOf(x, "grows"), -105);
            Checks.due("TEXT " + t, Checks.textOf(x, "grows 1;cools 1;burns 1;"), t);
        }
        Checks.due("count(4)", x.count(4), 6);
        Checks.feedAll(x, "grows");
        Checks.due("FULL ahead of the FAULT", x.text(), -4);
        Checks.due("THE TAPE stays", x.count(6), 5);
    }

    private static void force() {
        CoalIsLent x = Checks.withHuts(0, 1000);
        Checks.due("no TEXT 1", x.force(1), -2);
        Checks.textOf(x, "grows 3;cools 3;burns 3;");
        Checks.textOf(x, "grows 4;cools 4;burns 4;");
        Checks.due("force(2)", x.force(2), 0);
        Checks.due("it is THE LAW", x.asks(0, 0, 0), 4);
        Checks.due("force(1)", x.force(1), 2);
        Checks.due("force(3)", x.force(3), -2);
        Checks.due("force(-1)", x.force(-1), -2);
        Checks.due("THE LAW is 1 yet", x.count(5), 1);
        Checks.due("force(1) again", x.force(1), 1);
        Checks.due("force(0)", x.force(0), 1);
    }

    private static void value(String e, int due) {
        CoalIsLent x = Checks.withHuts(0, 1000);
        Checks.underLaw(x, e, "0", "0");
        Checks.due("grows " + e, x.asks(0, 0, 0), due);
        Checks.underLaw(x, "0", e, "0");
        Checks.due("cools " + e, x.asks(1, 0, 0), due);
        Checks.underLaw(x, "0", "0", e);
        Checks.due("burns " + e, x.asks(2, 0, 0), due);
    }

    private static void asksValues() {
        value("1 + 2 * 3", 7);
        value("(1 + 2) * 3", 9);
        value("10 - 3 - 2", 5);
        value("- 5 + 7", 2);
        value("- 2 * - 3", 6);
        value("- - 5", 5);
        value("2 - 3", 0);
        value("9999", 99);
        value("99", 99);
        value("100", 99);
        value("0099", 99);
        value("1 < 2", 1);
        value("2 < 1", 0);
        value("2 < 2", 0);
        value("2 = 2", 1);
        value("1 + 1 = 2 * 1", 1);
        value("- 1 < 0", 1);
        value("not 0", 1);
        value("not 7", 0);
        value("not not 7", 1);
        value("not 1 < 2", 0);
        value("not 2 < 1", 1);
        value("not 0 and 0", 0);
        value("5 or 0", 1);
        value("0 or 0", 0);
        value("0 or 0 or 7", 1);
        value("5 and 7", 1);
        value("5 and - 7", 1);
        value("1 and 7", 1);
        value("7 and 1", 1);
        value("0 and 1", 0);
        value("5 and 0", 0);
        value("1 or 1 and 0", 1);
        value("(1 or 1) and 0", 0);
        value("3 < 2 or 2 < 3", 1);
        value("(1 < 2) + (2 < 3) * 5", 6);
        value("7", 7);
        value("4096 * 4096 * 256 + 7", 7);
        value("4096 * 4096 * 128 < 0", 1);
        value("4096 * 4096 * 128 - 1", 99);
    }

    private static void asksNames() {
        CoalIsLent x = Checks.withHuts(3, 4217, 8, 1300, 0, 9000);
        x.lend(20, 501);
        x.lend(20, 605);
        x.lend(21, 703);
        x.put(0, 0, 42);
        x.put(1, 0, 13);
        x.night();
        x.night();
        // loan 0 was due in no NIGHT yet: DUE 1 is NIGHT 1, which was the second
        Checks.due("two LOANS are left", x.count(1), 2);
        Checks.underLaw(x, "heat", "wood", "night");
        Checks.due("heat", x.asks(0, 0, 0), x.told(0, 0));
        Checks.due("wood", x.asks(1, 0, 0), 15);
        Checks.due("night", x.asks(2, 0, 0), 2);
        Checks.underLaw(x, "coal", "owed", "more");
        Checks.due("coal", x.asks(0, 0, 77), 77);
        Checks.due("coal, cut", x.asks(0, 0, 9999), 99);
        Checks.due("owed", x.asks(1, 0, 77), x.told(0, 5));
        Checks.due("owed is what loan(0, 2) is", x.told(0, 5), x.loan(0, 2));
        Checks.due("owed of another", x.asks(1, 1, 0), x.loan(1, 2));
        Checks.due("owed of one that owes nothing", x.asks(1, 2, 0), 0);
        Checks.due("more", x.asks(2, 0, 0), 3);
        Checks.due("more of another", x.asks(2, 1, 0), 8);
        // the COAL is as told, whichever part is asked
        Checks.underLaw(x, "0", "coal", "coal + 1");
        Checks.due("cools coal", x.asks(1, 0, 33), 33);
        Checks.due("burns coal + 1", x.asks(2, 0, 33), 34);
    }

    private static void asksRefusals() {
        CoalIsLent x = Checks.withHuts(0, 1000);
        Checks.due("the first law: grows", x.asks(0, 0, 97), 1);
        Checks.due("the first law: grows no more", x.asks(0, 0, 98), 0);
        Checks.due("the first law: cools", x.asks(1, 0, 0), 2);
        Checks.due("the first law: burns", x.asks(2, 0, 9999), 10);
        Checks.due("part -1", x.asks(-1, 0, 0), -2);
        Checks.due("part 3", x.asks(3, 0, 0), -2);
        Checks.due("no HUT 1", x.asks(0, 1, 0), -2);
        Checks.due("no HUT -1", x.asks(0, -1, 0), -2);
        Checks.due("coal -1", x.asks(0, 0, -1), -2);
        Checks.due("coal 10000", x.asks(0, 0, 10000), -2);
    }

    private static void hut() {
        CoalIsLent x = new CoalIsLent();
        Checks.due("kindMore -1", x.hut(-1, 0), -2);
        Checks.due("kindMore 60", x.hut(60, 0), -2);
        Checks.due("heatWood -1", x.hut(0, -1), -2);
        Checks.due("heatWood 1000000", x.hut(0, 1000000), -2);
        Checks.due("none came", x.count(0), 0);
        Checks.due("hut 0", x.hut(59, 999999), 0);
        Checks.due("hut 1", x.hut(0, 0), 1);
        Checks.due("hut 2", x.hut(37, 12304), 2);
        int[][] due = {{9999, 99, 0, 5, 9, 0, 0, 0}, {0, 0, 0, 0, 0, 0, 0, 0}, {123, 4, 0, 3, 7, 0, 0, 0}};
        for (int h = 0; h < 3; h++) {
            for (int what = 0; what < 8; what++) {
                Checks.due("told(" + h + ", " + what + ")", x.told(h, what), due[h][what]);
            }
        }
        for (int h = 3; h < 6; h++) Checks.due("hut " + h, x.hut(10 * h, h), h);
        String before = Checks.all(x);
        Checks.due("the seventh", x.hut(0, 0), -4);
        Checks.due("BAD ahead of FULL", x.hut(60, 0), -2);
        Checks.same("a refused hut()", before, x);
    }

    private static void put() {
        CoalIsLent x = Checks.withHuts(0, 6005, 14, 25010);
        Checks.due("put HEAT", x.put(0, 0, 9999), 60);
        Checks.due("put WOOD", x.put(0, 1, 99), 5);
        Checks.due("put COLD", x.put(0, 2, 99), 0);
        Checks.due("put HEAT again", x.put(0, 0, 0), 9999);
        Checks.due("put WOOD again", x.put(0, 1, 0), 99);
        Checks.due("put COLD again", x.put(0, 2, 7), 99);
        Checks.due("HEAT", x.told(0, 0), 0);
        Checks.due("WOOD", x.told(0, 1), 0);
        Checks.due("COLD", x.told(0, 2), 7);
        Checks.due("another's HEAT", x.told(1, 0), 250);
        String before = Checks.all(x);
        Checks.due("no HUT 2", x.put(2, 0, 0), -5);
        Checks.due("no HUT -1, ahead of what", x.put(-1, 3, -1), -5);
        Checks.due("what -1", x.put(0, -1, 0), -7);
        Checks.due("what 3", x.put(0, 3, 0), -7);
        for (int what = 0; what < 3; what++) Checks.due("v -1", x.put(0, what, -1), -7);
        Checks.due("HEAT 10000", x.put(0, 0, 10000), -7);
        Checks.due("WOOD 100", x.put(0, 1, 100), -7);
        Checks.due("COLD 100", x.put(0, 2, 100), -7);
        Checks.same("a refused put()", before, x);
    }

    private static void told() {
        CoalIsLent x = Checks.withHuts(35, 10007, 41, 9000);
        x.lend(1, 1001);
        x.lend(1, 2001);
        x.lend(10, 501);
        int[][] due = {{100 - 30 + 5, 7, 0, 3, 5, 5, 30, 2}, {90 + 30 - 5, 0, 0, 4, 1, 30, 5, 1}};
        for (int h = 0; h < 2; h++) {
            for (int what = 0; what < 8; what++) {
                Checks.due("told(" + h + ", " + what + ")", x.told(h, what), due[h][what]);
            }
        }
        Checks.due("no HUT 2", x.told(2, 0), -5);
        Checks.due("no HUT -1, ahead of what", x.told(-1, 8), -5);
        Checks.due("what 8", x.told(0, 8), -7);
        Checks.due("what -1", x.told(0, -1), -7);
    }
}
