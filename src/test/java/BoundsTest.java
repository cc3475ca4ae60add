import java.math.BigInteger;

/** Promises 3 to 39: the least and the greatest number that is taken, each with what it then does. */
final class BoundsTest {
    private static final int BYTES = 0, SHORTS = 1, INTS = 2;

    private BoundsTest() {
    }

    public static void main(String[] args) {
        feed3();
        asks6();
        hut7();
        put8();
        told9AndLoan11();
        lend10();
        lend10Heat();
        repay12AndForgive13();
        night14();
        run15();
        lasts16();
        settle18();
        ask21();
        ask21AtTheEdge();
        needs22();
        mercy23();
        worst24();
        judge25();
        kinds26();
        states27();
        whose28AndLaws29();
        film30();
        drawn31();
        odds32();
        odds32Past99999();
        sheets35To37();
        hutsBy38();
        taken39();
        Checks.finish();
    }

    private static void feed3() {
        CoalIsLent x = new CoalIsLent();
        Checks.due("n 1, bytes of 0", x.feed(1, 0, 0, 0, 0, 0), 1);
        Checks.due("n 5, bytes of 255", x.feed(5, 255, 255, 255, 255, 255), 6);
        for (int n = 1; n <= 5; n++) {
            CoalIsLent y = new CoalIsLent();
            Checks.feedAll(y, "grows 1");
            Checks.due("n " + n, y.feed(n, '1', '1', '1', ';', '$'), 7 + n);
            // 11, 111, 1111 end too early; then 1111; and then a byte that begins none
            Checks.due("just " + n + " came, in their order", y.text(), new int[] {-108, -109, -110, -111, -111}[n - 1]);
        }
        CoalIsLent z = new CoalIsLent();
        z.feed(5, 'g', 'r', 'o', 'w', 's');
        z.feed(2, '1', ';', 'x', 'x', 'x');
        z.feed(5, 'c', 'o', 'o', 'l', 's');
        z.feed(1, '2', 'x', 'x', 'x', 'x');
        z.feed(4, ';', 'b', 'u', 'r', 'x');
        z.feed(3, 'n', 's', '3', 'x', 'x');
        Checks.due("by all n", z.feed(1, ';', 0, 0, 0, 0), 21);
        Checks.due("one TEXT", z.text(), 1);
    }

    private static void asks6() {
        CoalIsLent x = Checks.withHuts(0, 999999, 9, 0);
        Checks.underLaw(x, "coal = 9999", "heat = 9999 and wood = 99", "more = 9");
        Checks.due("COAL 9999", x.asks(0, 0, 9999), 1);
        Checks.due("COAL 9998", x.asks(0, 0, 9998), 0);
        Checks.due("COAL 0", x.asks(0, 0, 0), 0);
        Checks.due("the first HUT", x.asks(1, 0, 0), 1);
        Checks.due("the last HUT", x.asks(1, 1, 0), 0);
        Checks.due("part 2 of the last HUT", x.asks(2, 1, 9999), 1);
        Checks.underLaw(x, "coal = 0", "not coal", "1 - coal");
        for (int part = 0; part < 3; part++) Checks.due("COAL 0, part " + part, x.asks(part, 1, 0), 1);
        Checks.underLaw(x, "not night", "night = 0", "not owed");
        for (int part = 0; part < 3; part++) Checks.due("at first", x.asks(part, 1, 0), 1);
    }

    private static void hut7() {
        int[][] all = {{0, 0, 0, 0, 0, 0}, {9, 99, 0, 9, 0, 99}, {10, 100, 1, 0, 1, 0}, {50, 999900, 5, 0, 9999, 0},
            {59, 999999, 5, 9, 9999, 99}, {49, 101, 4, 9, 1, 1}};
        CoalIsLent x = new CoalIsLent();
        for (int h = 0; h < 6; h++) {
            Checks.due("hut", x.hut(all[h][0], all[h][1]), h);
            Checks.due("KIND", x.told(h, 3), all[h][2]);
            Checks.due("MORE", x.told(h, 4), all[h][3]);
            Checks.due("HEAT", x.told(h, 0), all[h][4]);
            Checks.due("WOOD", x.told(h, 1), all[h][5]);
            Checks.due("COLD is 0 as one comes", x.told(h, 2), 0);
        }
    }

    private static void put8() {
        CoalIsLent x = Checks.withHuts(0, 1234, 0, 5678);
        int[] most = {9999, 99, 99};
        for (int h = 0; h < 2; h++) {
            for (int what = 0; what < 3; what++) {
                int was = x.told(h, what);
                for (int v : new int[] {0, most[what], 1, most[what] - 1}) {
                    Checks.due("what it was", x.put(h, what, v), was);
                    Checks.due("what it is", x.told(h, what), v);
                    was = v;
                }
            }
        }
    }

    private static void told9AndLoan11() {
        CoalIsLent x = Worlds.calm(0, 999900, 59, 7);
        x.lend(1, 101);
        x.put(0, 0, 9999);
        x.lend(1, 999999);
        int[] first = {9999 - 9999, 0, 0, 0, 0, 0, 10000, 2};
        int[] last = {9999, 7, 0, 5, 9, 10000, 0, 0};
        for (int what = 0; what <= 7; what++) {
            Checks.due("told(0, " + what + ")", x.told(0, what), first[what]);
            Checks.due("told(1, " + what + ")", x.told(1, what), last[what]);
        }
        int[][] loans = {{0, 1, 1, 1}, {0, 1, 9999, 99}};
        for (int k = 0; k < 2; k++) {
            for (int what = 0; what <= 3; what++) Checks.due("loan(" + k + ")", x.loan(k, what), loans[k][what]);
        }
    }

    /** Between all two HUTS of six; the least and the greatest coalNights. */
    private static void lend10() {
        for (int from = 0; from < 6; from++) {
            for (int to = 0; to < 6; to++) {
                CoalIsLent x = Worlds.calm(0, 10000, 0, 10000, 0, 10000, 0, 10000, 0, 10000, 0, 10000);
                Checks.due("lend(" + from + to + ")", x.lend(10 * from + to, 101), from == to ? -5 : 0);
                if (from == to) continue;
                Checks.due("from", x.loan(0, 0), from);
                Checks.due("to", x.loan(0, 1), to);
                Checks.due("HEAT of the one", x.told(from, 0), 99);
                Checks.due("HEAT of the other", x.told(to, 0), 101);
                Checks.due("HEAT of all", x.count(3), 600);
            }
        }
        int[][] all = {{101, 1, 1}, {102, 1, 2}, {199, 1, 99}, {201, 2, 1}, {999901, 9999, 1}, {999999, 9999, 99}};
        for (int[] a : all) {
            CoalIsLent x = Worlds.calm(0, 999900, 0, 0);
            Checks.due("lend(1, " + a[0] + ")", x.lend(1, a[0]), 0);
            Checks.due("COAL", x.loan(0, 2), a[1]);
            Checks.due("DUE", x.loan(0, 3), a[2]);
        }
    }

    private static void lend10Heat() {
        for (int cold = 0; cold <= 2; cold++) {
            for (int heat : new int[] {0, 29, 30, 31}) {
                CoalIsLent x = Worlds.calm(0, 100 * heat, 0, 0);
                x.put(0, 2, cold);
                boolean can = cold == 0 && heat >= 30;
                Checks.due("COLD " + cold + ", HEAT " + heat, x.lend(1, 3001), can ? 0 : -3);
                Checks.due("HEAT", x.told(0, 0), can ? heat - 30 : heat);
                Checks.due("HEAT of the other", x.told(1, 0), can ? 30 : 0);
            }
        }
        CoalIsLent x = Worlds.calm(0, 3000, 0, 0);
        x.put(1, 2, 99);
        Checks.due("the other one may be COLD", x.lend(1, 3001), 0);
    }

    private static void repay12AndForgive13() {
        for (int heat : new int[] {0, 29, 30, 31}) {
            CoalIsLent x = Worlds.calm(0, 10000, 0, 0);
            x.lend(1, 3099);
            x.lend(1, 101);
            x.put(1, 0, heat);
            Checks.due("HEAT " + heat, x.repay(0), heat < 30 ? -3 : 30);
            Checks.due("LOANS", x.count(1), heat < 30 ? 2 : 1);
            Checks.due("HEAT of the one", x.told(1, 0), heat < 30 ? heat : heat - 30);
            Checks.due("HEAT of the other", x.told(0, 0), heat < 30 ? 69 : 99);
            Checks.due("who owes nothing may be COLD", x.put(1, 2, 99), 0);
            Checks.due("forgive the last", x.forgive(x.count(1) - 1), 1);
            Checks.due("HEAT stays", x.told(1, 0), heat < 30 ? heat : heat - 30);
        }
        CoalIsLent x = Worlds.calm(0, 999900, 0, 0);
        x.lend(1, 999901);
        Checks.due("the hottest", x.repay(0), 9999);
        Checks.due("HEAT", x.told(0, 0), 9999);
        x.lend(1, 999901);
        Checks.due("the hottest", x.forgive(0), 9999);
        Checks.due("HEAT", x.told(0, 0), 0);
    }

    private static void night14() {
        CoalIsLent x = Worlds.calm(0, 10000, 0, 0);
        for (int i = 0; i < 998; i++) x.night();
        Checks.due("NIGHT", x.count(2), 998);
        x.lend(1, 1001);
        Checks.due("the last one", x.night(), 0);
        Checks.due("NIGHT", x.count(2), 999);
        x.put(1, 0, 0);
        Checks.due("no more", x.night(), -3);
        Checks.due("in thought it FAILS", x.run(1, 1), 2);
        x.image();
        Checks.due("and by a film", x.film(0, 0, 2), 2);
        Checks.due("NIGHT", x.count(2), 999);
    }

    private static void run15() {
        CoalIsLent x = Checks.withHuts(0, 10000, 0, 8000);
        x.lend(1, 1040);
        Checks.due("0 NIGHTS", x.run(0, 0), 180);
        Checks.due("1 NIGHT", x.run(1, 0), 176);
        Checks.due("39 NIGHTS", x.run(39, 10), 90 - 78);
        Checks.due("40 NIGHTS", x.run(40, 10), 90 - 80);
        Checks.due("the last HUT", x.run(40, 11), 90 - 80);
        Checks.due("LOANS", x.run(40, 2), 1);
        Checks.due("FAILED", x.run(40, 1), 0);
        x.night();
        Checks.due("FAILED in the 40th", x.run(40, 1), 2);
        Checks.due("not in the 39th", x.run(39, 1), 0);
    }

    private static void lasts16() {
        CoalIsLent x = Checks.withHuts(0, 0, 0, 100, 0, 200, 0, 300, 0, 8000, 0, 8100);
        int[] due = {0, 1, 1, 2, 40, -1};
        for (int h = 0; h < 6; h++) Checks.due("HEAT 0 of " + h, x.lasts(h, 1), due[h]);
        for (int nights : new int[] {1, 2, 39, 40}) {
            CoalIsLent y = Worlds.calm(0, 10000, 0, 0);
            y.lend(1, 100 + nights);
            y.put(1, 0, 0);
            Checks.due("FAILED in the one behind " + nights, y.lasts(1, 0), nights < 40 ? nights + 1 : -1);
        }
        CoalIsLent z = Worlds.calm(0, 10000, 0, 0);
        z.lend(1, 101);
        z.put(1, 0, 0);
        z.night();
        Checks.due("FAILED in the first", z.lasts(1, 0), 1);
        z.put(1, 0, 5);
        z.put(1, 2, 1);
        z.forgive(0);
        Checks.due("HEAT 0 as it is COLD", z.lasts(1, 1), 1);
    }

    /** How many payments, how much, and the LOANS, pair by pair. */
    private static void settle18() {
        // nets -9, 9; -9, 9, 0; -9, 5, 4; 9, -5, -4; -1, 1, -1, 1; 0, 0; and -10, 9, 8, -7: 9 of HUT 0 to HUT 1, 7 of
        // HUT 3 to HUT 2, 1 of HUT 0 to HUT 2
        int[][] all = {{1, 9, 10, 909}, {1, 9, 10, 909, 12, 0}, {2, 9, 10, 509, 20, 409}, {2, 9, 1, 509, 2, 409},
            {2, 2, 10, 109, 32, 109}, {0, 0, 1, 909, 10, 909}, {3, 17, 10, 509, 20, 509, 13, 409, 23, 309}};
        for (int i = 0; i < all.length; i++) {
            CoalIsLent x = Worlds.calm(0, 10000, 0, 10000, 0, 10000, 0, 10000);
            for (int j = 2; j < all[i].length; j += 2) x.lend(all[i][j], all[i][j + 1]);
            Checks.due("payments of " + i, x.settle(0), all[i][0]);
            Checks.due("together of " + i, x.settle(1), all[i][1]);
        }
    }

    private static void ask21() {
        CoalIsLent x = Worlds.calm(0, 0, 0, 999900);
        for (int coalNights : new int[] {101, 139, 999901, 999939}) {
            Checks.due("ask(0, " + coalNights + ", 0)", x.ask(0, coalNights, 0), 1);
            Checks.due("ask(0, " + coalNights + ", 1)", x.ask(0, coalNights, 1), 9999);
        }
        x.put(1, 0, 50);
        Checks.due("HEAT as the COAL", x.ask(0, 5001, 0), 1);
        Checks.due("HEAT less than the COAL", x.ask(0, 5101, 0), -1);
        Checks.due("HEAT less than the COAL", x.ask(0, 5101, 1), -1);
        Checks.due("nobody to be asked by the hot one", x.ask(1, 101, 0), -1);
        // HEAT of all may be 0 then, which is more than none
        CoalIsLent y = Checks.underLaw(Checks.withHuts(0, 5000, 0, 5000, 0, 5000), "0", "99", "0");
        Checks.due("all gone, of like ones the first", y.ask(0, 101, 0), 1);
        Checks.due("all gone", y.ask(0, 101, 1), 0);
        Checks.due("all gone, of like ones the first", y.ask(1, 101, 0), 0);
        Checks.due("all gone, of like ones the first", y.ask(2, 139, 0), 0);
        y.put(0, 2, 1);
        Checks.due("the COLD one not", y.ask(2, 139, 0), 1);
        CoalIsLent z = Worlds.calm(0, 0, 0, 5000, 0, 5000);
        for (int k = 0; k < 9; k++) z.lend(12, 101);
        Checks.due("the tenth LOAN", z.ask(0, 101, 0), 1);
        z.lend(12, 101);
        Checks.due("an eleventh", z.ask(0, 101, 0), -1);
    }

    /** Behind nights and 1 NIGHTS the LOAN is through: what who asked can't repay is told. */
    private static void ask21AtTheEdge() {
        for (int nights : new int[] {1, 2, 39}) {
            CoalIsLent x = Checks.underLaw(Checks.withHuts(0, 0, 0, 10000), "night = " + nights, "0", "0");
            // it grows by 1 in the very NIGHT that it is DUE in: 41 of 40, so that who asked FAILS
            Checks.due("HEAT of all", x.ask(0, 4000 + nights, 1), 60);
            x.put(0, 0, 1);
            Checks.due("HEAT of all, with 1 more", x.ask(0, 4000 + nights, 1), 101);
        }
    }

    private static void needs22() {
        CoalIsLent x = Checks.underLaw(Checks.withHuts(0, 10000, 0, 0), "0", "0", "1");
        x.lend(1, 1039);
        int[][] all = {{10, 0}, {9, 1}, {0, 10}, {5, 5}};
        for (int[] a : all) {
            x.put(1, 0, a[0]);
            Checks.due("WOOD with HEAT " + a[0], x.needs(1, 40), a[1]);
            Checks.due("not in 39 NIGHTS", x.needs(1, 39), 0);
            Checks.due("not in 0 NIGHTS", x.needs(1, 0), 0);
        }
        // what burns but once there were 98, 99 or 100 pieces
        int[][] pieces = {{98, 98}, {99, 99}, {100, -1}};
        for (int[] a : pieces) {
            CoalIsLent y = Checks.underLaw(Checks.withHuts(0, 10000, 0, 0), "0", "0", "not wood < " + a[0]);
            y.lend(1, 101);
            y.put(1, 0, 0);
            Checks.due("pieces", y.needs(1, 2), a[1]);
            Checks.due("HUT 0 needs none", y.needs(0, 40), 0);
        }
    }

    private static void mercy23() {
        CoalIsLent x = Worlds.calm(0, 10000, 0, 0, 0, 0);
        x.lend(1, 1039);
        x.lend(2, 1039);
        x.put(1, 0, 0);
        x.put(2, 0, 0);
        Checks.due("none FAILS in 39", x.mercy(39, 0), -1);
        Checks.due("none FAILS in 39", x.mercy(39, 1), 0);
        Checks.due("of like ones the first", x.mercy(40, 0), 0);
        Checks.due("one FAILS", x.mercy(40, 1), 1);
        x.forgive(0);
        Checks.due("the only one", x.mercy(40, 0), 0);
        Checks.due("none FAILS then", x.mercy(40, 1), 0);
        x.put(2, 0, 10);
        Checks.due("none FAILS as it is", x.mercy(40, 0), -1);
        Checks.due("none FAILS as it is", x.mercy(40, 1), 0);
        // the last of ten
        CoalIsLent y = Worlds.calm(0, 10000, 0, 0);
        for (int k = 0; k < 10; k++) y.lend(1, k < 9 ? 101 : 2001);
        y.put(1, 0, 9);
        Checks.due("the last of ten", y.mercy(2, 0), 9);
        Checks.due("none FAILS then", y.mercy(2, 1), 0);
    }

    private static void worst24() {
        CoalIsLent x = Worlds.calm(0, 0, 0, 999900, 0, 999900);
        for (int n : new int[] {0, 1, 39, 40}) {
            Checks.due("of like ones the first", x.worst(n, 0), 1);
            Checks.due("HEAT of the others", x.worst(n, 1), 9999);
        }
        CoalIsLent y = Worlds.calm(0, 0, 0, 0);
        Checks.due("all are out: the first", y.worst(40, 0), 0);
        Checks.due("HEAT 0", y.worst(40, 1), 0);
        // both 0, no less: its COAL of 10 grows by 1 in two NIGHTS, and is REPAID by the 60 that come to it ahead
        CoalIsLent w = Checks.underLaw(Checks.withHuts(0, 10000, 0, 10009, 0, 0), "heat = 0 and wood = 0", "0", "0");
        w.lend(12, 6001);
        w.lend(1, 1001);
        w.put(0, 0, 50);
        Checks.due("it has neither", w.worst(2, 0), 1);
        Checks.due("HEAT of the others", w.worst(2, 1), 50 + 12);
        // neither WOOD: what it burns then would repay
        CoalIsLent z = Checks.underLaw(Checks.withHuts(0, 5000, 0, 5), "0", "0", "50");
        z.lend(1, 4001);
        Checks.due("it could not repay", z.worst(2, 0), 1);
        Checks.due("HEAT of the other", z.worst(2, 1), 10);
    }

    private static void judge25() {
        CoalIsLent x = Checks.withHuts(0, 10000, 0, 0);
        for (int s = 0; s < 4; s++) {
            for (int size : new int[] {1, 2, 19, 20}) {
                x.sheet(s, SHORTS, size);
                for (int i = 0; i < size; i++) x.cell(s, i, 98 - 2 * i);
                Checks.due("as told", x.judge(s, 0), -1);
                Checks.due("the first number of the last HUT", x.judge(s, 1), 0);
                x.cell(s, size - 1, 99 - 2 * (size - 1));
                Checks.due("the last number", x.judge(s, 0), size - 1);
                x.cell(s, 0, 97);
                Checks.due("the first number", x.judge(s, 0), 0);
            }
            Checks.due("21 numbers", x.sheet(s, SHORTS, 21) + x.judge(s, 0), 1 - 2);
        }
    }

    private static void kinds26() {
        CoalIsLent x = Checks.underLaw(Checks.withHuts(25, 10001), "0", "0", "0");
        Checks.fill(x, 0, INTS, 100);
        // THATCH burns MORE, OVENS cool 5; all others are as told
        Checks.due("KINDS 0, 1, 5", x.kinds(0, 0, 0), 1 + 2 + 32);
        Checks.fill(x, 0, INTS, 105);
        Checks.due("KIND 3", x.kinds(0, 0, 0), 8);
        Checks.fill(x, 0, INTS, 95);
        Checks.due("KINDS 2, 4", x.kinds(0, 0, 0), 4 + 16);
        Checks.due("all MORE", x.kinds(0, 0, 1), 1023);
        CoalIsLent y = Checks.underLaw(Checks.withHuts(35, 10001), "0", "0", "0");
        for (int more = 0; more <= 10; more++) {
            Checks.fill(y, 0, INTS, 100 + more);
            Checks.due("MORE " + more, y.kinds(0, 0, 1), more < 10 ? 1 << more : 0);
        }
        y.night();
        Checks.fill(y, 0, INTS, y.told(0, 0));
        y.put(0, 1, 1);
        Checks.due("GLASS in an odd NIGHT is otherwise", y.kinds(0, 0, 0), 1 + 2);
    }

    private static void states27() {
        CoalIsLent x = Worlds.calm(0, 5000);
        int[][] heats = {{0, 1, 0}, {1, 1, 1}, {298, 1, 298}, {299, 1, 299}, {300, 0, -1}, {9999, 0, -1}, {-1, 0, -1}};
        for (int[] a : heats) {
            Checks.fill(x, 0, INTS, a[0]);
            Checks.due("how many HEATS for " + a[0], x.states(0, 0, 0, 0), a[1]);
            Checks.due("the least for " + a[0], x.states(0, 0, 0, 1), a[2]);
        }
        // WOOD 0 .. 99: what burns is 1 from so many pieces on
        for (int from : new int[] {0, 1, 98, 99, 100}) {
            CoalIsLent y = Checks.underLaw(Checks.withHuts(0, 5001), "0", "0", "not wood < " + from);
            Checks.fill(y, 0, INTS, 51);
            Checks.due("WOODS from " + from, y.states(0, 0, 1, 0), from == 0 ? 99 : 100 - from);
            Checks.due("the least", y.states(0, 0, 1, 1), from == 0 ? 1 : from == 100 ? -1 : from);
            Checks.fill(y, 0, INTS, 50);
            Checks.due("the others", y.states(0, 0, 1, 0), from == 0 ? 1 : from);
            Checks.due("the least", y.states(0, 0, 1, 1), 0);
        }
        // COLD 0 .. 99: 0 as long as it is COLD, HEAT again by the NIGHT behind
        for (int n = 1; n <= 20; n++) {
            CoalIsLent y = Checks.underLaw(Checks.withHuts(0, 5099), "0", "0", "9");
            y.sheet(0, INTS, n);
            Checks.due("COLDS of " + n + " or more", y.states(0, 0, 2, 0), 100 - n);
            Checks.due("the least", y.states(0, 0, 2, 1), n);
            y.cell(0, n - 1, n == 1 ? 59 : 9);
            Checks.due("just one COLD", y.states(0, 0, 2, 0), 1);
            Checks.due("of one less", y.states(0, 0, 2, 1), n - 1);
        }
    }

    private static void whose28AndLaws29() {
        CoalIsLent x = Worlds.calm(0, 100, 0, 200, 0, 100, 0, 300, 0, 400, 0, 100);
        int[] due = {0, 1 + 4 + 32, 2, 8, 16, 0};
        for (int heat = 0; heat < due.length; heat++) {
            Checks.fill(x, 3, BYTES, heat, heat);
            Checks.due("whose " + heat, x.whose(3), due[heat]);
        }
        CoalIsLent y = Checks.withHuts(0, 10000);
        Checks.fill(y, 3, BYTES, 98);
        Checks.due("TEXT 0 alone", y.laws(3, 0), 1);
        for (int t = 1; t < 6; t++) {
            Checks.textOf(y, "grows 0;cools " + (2 + t) + ";burns 0;");
            Checks.fill(y, 3, BYTES, 98 - t);
            Checks.due("TEXT " + t, y.laws(3, 0), 1 << t);
        }
        Checks.due("THE LAW is as it was", y.count(5), 0);
    }

    private static void film30() {
        CoalIsLent x = Worlds.calm(0, 999900, 0, 100);
        for (int s = 0; s < 4; s++) {
            for (int n : new int[] {20, 1, 0, 19}) {
                Checks.due("film", x.film(s, s % 2, n), n);
                Checks.due("has so many", Whole.sizeOf(x, s), n);
                Checks.due("of shorts", Whole.sortOf(x, s), SHORTS);
                Checks.due("as it will be", x.judge(s, s % 2), -1);
            }
            x.sheet(s, s % 3, 40);
            Checks.due("film in place of what stood", x.film(s, 0, 2), 2);
            Checks.due("has 2", Whole.sizeOf(x, s), 2);
            Checks.due("HEAT 9999 is one of shorts", x.judge(s, 0), -1);
            Checks.due("whose", x.whose(s), 1);
            Checks.due("anew, all 0", x.sheet(s, INTS, 20), 1);
            x.put(1, 0, 0);
            Checks.due("all 0", x.judge(s, 1), -1);
            x.put(1, 0, 1);
        }
    }

    /** LOTS, written down as the document tells them. */
    private static int[] hutsBySnow(int seed, int huts) {
        int[] all = new int[5];
        BigInteger modulus = BigInteger.valueOf(2147483647L);
        BigInteger lot = BigInteger.valueOf(seed).add(BigInteger.ONE);
        for (int i = 0; i < 5; i++) {
            lot = lot.multiply(BigInteger.valueOf(48271L)).mod(modulus);
            all[i] = lot.mod(BigInteger.valueOf(huts)).intValue();
        }
        return all;
    }

    private static void drawn31() {
        for (int huts = 1; huts <= 6; huts++) {
            CoalIsLent x = Worlds.calm();
            for (int h = 0; h < huts; h++) x.hut(0, 999900);
            for (int seed : new int[] {0, 1, 2, 3, 50000, 99998, 99999}) {
                int[] by = hutsBySnow(seed, huts);
                for (int snow : new int[] {0, 1, 998, 999}) {
                    Checks.due("HEAT of all", x.drawn(seed, snow, 1), 9999 * huts - 5 * snow);
                    Checks.due("nobody FAILED", x.drawn(seed, snow, 0), 0);
                }
                // the only one with HEAT: so much less of it as there are LOTS of it
                for (int h = 0; h < huts; h++) {
                    for (int other = 0; other < huts; other++) x.put(other, 0, other == h ? 9999 : 0);
                    int many = 0;
                    for (int b : by) if (b == h) many++;
                    Checks.due("HEAT of " + h, x.drawn(seed, 999, 1), 9999 - 999 * many);
                }
                for (int h = 0; h < huts; h++) x.put(h, 0, 9999);
            }
        }
    }

    private static void odds32() {
        CoalIsLent x = Worlds.calm(0, 10000);
        for (int seed : new int[] {0, 99999}) {
            for (int seeds : new int[] {1, 2, 39, 40}) {
                for (int snow : new int[] {0, 999}) {
                    Checks.due("all have 0 or more", x.odds(seed, seeds, snow, 0, 0), 1);
                    Checks.due("all have 0 or more", x.odds(seed, seeds, snow, 0, 1), 1);
                    for (int many : new int[] {1, 6}) {
                        Checks.due("none has " + many, x.odds(seed, seeds, snow, many, 0), 0);
                        Checks.due("none has " + many, x.odds(seed, seeds, snow, many, 1), 1);
                    }
                }
            }
        }
        // all six FAIL, whoever is snowed upon
        CoalIsLent y = Worlds.calm(0, 10000, 0, 10000, 0, 10000, 0, 10000, 0, 10000, 0, 10000);
        for (int h = 0; h < 6; h++) y.lend(10 * h + (h + 1) % 6, 1001);
        for (int h = 0; h < 6; h++) y.put(h, 0, 0);
        Checks.due("all six", y.drawn(0, 0, 0), 63);
        Checks.due("6 or more", y.odds(0, 40, 0, 6, 0), 1);
        Checks.due("6 or more", y.odds(0, 40, 0, 6, 1), 1);
        y.forgive(0);
        Checks.due("five", y.drawn(0, 0, 0), 61);
        Checks.due("6 or more", y.odds(0, 40, 0, 6, 0), 0);
        Checks.due("5 or more", y.odds(0, 40, 0, 5, 0), 1);
    }

    /** Who is snowed upon ahead of the first two NIGHTS can't repay; SEED and each 1 more, also past 99999. */
    private static void odds32Past99999() {
        for (int huts = 2; huts <= 6; huts++) {
            CoalIsLent x = Worlds.calm();
            for (int h = 0; h < huts; h++) x.hut(0, 10000);
            x.lend(1, 1001);
            for (int seed : new int[] {0, 777, 99960, 99999}) {
                for (int seeds = 1; seeds <= 40; seeds++) {
                    int above = 0;
                    for (int i = 0; i < seeds; i++) {
                        int[] by = hutsBySnow(seed + i, huts);
                        if (by[0] == 1 || by[1] == 1) above++;
                    }
                    int shared = BigInteger.valueOf(above).gcd(BigInteger.valueOf(seeds)).intValue();
                    String what = "odds(" + seed + ", " + seeds + ") of " + huts;
                    Checks.due(what + ", above", x.odds(seed, seeds, 101, 1, 0), above / shared);
                    Checks.due(what + ", below", x.odds(seed, seeds, 101, 1, 1), seeds / shared);
                }
            }
        }
    }

    private static void sheets35To37() {
        CoalIsLent x = new CoalIsLent();
        for (int s = 0; s < 4; s++) {
            for (int sort = 0; sort < 3; sort++) {
                for (int n : new int[] {0, 1, 39, 40}) {
                    Checks.due("sheet", x.sheet(s, sort, n), 1);
                    Checks.due("its sort", Whole.sortOf(x, s), sort);
                    Checks.due("so many", Whole.sizeOf(x, s), n);
                    Checks.due("its first", x.cell(s, 0, 1), n > 0 ? 1 : -12);
                    Checks.due("its last", x.cell(s, n - 1, 1), n > 0 ? 1 : -12);
                    Checks.due("behind it", x.cell(s, n, 1), -12);
                }
            }
            for (int n : new int[] {Integer.MIN_VALUE, -1, 0, 40, 41, Integer.MAX_VALUE}) {
                Checks.due("missing, by n " + n, x.sheet(s, -1, n), 1);
                Checks.due("is missing", x.cell(s, 0, 1), -11);
                x.sheet(s, INTS, 2);
            }
        }
        x.sheet(0, INTS, 4);
        x.sheet(1, INTS, 2);
        int[][] all = {{0, 0, 2, 2}, {2, 0, 2, 2}, {3, 1, 1, 1}, {4, 2, 0, 0}, {0, 0, 0, 0}, {3, 0, 2, -12},
            {0, 1, 2, -12}, {0, 0, 3, -12}};
        for (int[] a : all) Checks.due("copy", x.copy(0, a[0], 1, a[1], a[2]), a[3]);
    }

    private static void hutsBy38() {
        CoalIsLent x = new CoalIsLent();
        Checks.fill(x, 3, SHORTS, 10, 100, 20, 200, 30, 300, 40, 400);
        x.image();
        int[][] all = {{0, 4, 4}, {0, 1, 1}, {6, 1, 1}, {2, 3, 3}, {0, 0, 0}, {8, 0, 0}, {6, 2, -12}, {7, 1, -12},
            {1, 3, 0}, {1, 4, -12}, {8, 1, -12}};
        for (int[] a : all) {
            Checks.due("hutsBy from " + a[0] + ", " + a[1], x.hutsBy(3, SHORTS, a[0], a[1]), a[2]);
            x.back();
        }
        Checks.due("one, then outside", x.hutsBy(3, SHORTS, 6, 2), -12);
        Checks.due("the one came", x.count(0), 1);
        Checks.due("its KIND", x.told(0, 3), 4);
        Checks.due("its HEAT", x.told(0, 0), 4);
    }

    private static void taken39() {
        CoalIsLent x = Checks.withHuts(0, 0, 50, 999900);
        Checks.due("the first HUT", x.taken(0, 0), 0);
        Checks.due("the last HUT", x.taken(1, 5), 1);
        Checks.due("a HUT of its KIND", x.taken(1, 0), 1);
        Checks.due("the first is no GLASS", x.taken(0, 5), -13);
        Checks.due("HEAT 0", x.taken(6, 6), 0);
        Checks.due("HEAT 9999", x.taken(7, 6), 9999);
        Checks.due("behind the last HUT", x.taken(2, 0), -11);
        Checks.due("the last place of HUTS", x.taken(5, 0), -11);
        Checks.due("behind the last HEAT", x.taken(8, 6), -11);
        Checks.due("the last place", x.taken(11, 6), -11);
        Checks.due("behind it", x.taken(12, 6), -12);
        Checks.due("ahead of the first", x.taken(-1, 0), -12);
    }
}
