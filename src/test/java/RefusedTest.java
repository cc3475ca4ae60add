/**
 * Promises 2 to 39: each refused call, by the numbers just outside of what is taken and those as far outside as can
 * be; of several refusals the first one told; and that all stays as it was, SHEETS, TEXTS, THE TAPE and IMAGE, too.
 */
final class RefusedTest {
    private static final int BAD = -2, STATE = -3, FULL = -4, NO_SUCH = -5, NOT_AS_TOLD = -7;
    private static final int NOTHING_THERE = -11, OUTSIDE = -12, UNLIKE = -13, BELOW_ZERO = -14;
    private static final int LEAST = Integer.MIN_VALUE, MOST = Integer.MAX_VALUE;
    private static final int[] NO_HUT = Checks.outside(0, 2);
    private static final int[] NO_WHAT = Checks.outside(0, 1);
    private static final int[] NO_NIGHTS = Checks.outside(0, 40);
    private static final int[] NO_SHEET = Checks.outside(0, 3);

    private RefusedTest() {
    }

    public static void main(String[] args) {
        count2();
        feed3();
        text4();
        force5AndAsks6();
        hut7();
        put8AndTold9();
        lend10OfWhom();
        lend10OfWhat();
        lend10FullAndState();
        loan11();
        repay12();
        forgive13();
        night14();
        run15AndLasts16();
        debts17To20();
        ask21();
        needs22();
        mercy23AndWorst24();
        toldNights25To29();
        kinds26AndStates27();
        film30();
        drawn31();
        odds32();
        back34();
        sheet35();
        cell36();
        copy37();
        copy37Places();
        hutsBy38();
        hutsBy38Outside();
        taken39();
        Checks.finish();
    }

    private static void no(String what, long due, Whole.Call call) {
        Whole.changesNothing(what, Worlds::some, due, call);
    }

    private static void noWhenFull(String what, long due, Whole.Call call) {
        Whole.changesNothing("full: " + what, Worlds::full, due, call);
    }

    private static void count2() {
        for (int what : Checks.outside(0, 6)) no("count(" + what + ")", BAD, x -> x.count(what));
    }

    private static void feed3() {
        for (int n : Checks.outside(1, 5)) no("feed n " + n, BAD, x -> x.feed(n, 1, 1, 1, 1, 1));
        for (int v : Checks.outside(0, 255)) {
            no("feed a " + v, BAD, x -> x.feed(1, v, 1, 1, 1, 1));
            no("feed b " + v, BAD, x -> x.feed(1, 1, v, 1, 1, 1));
            no("feed c " + v, BAD, x -> x.feed(2, 1, 1, v, 1, 1));
            no("feed d " + v, BAD, x -> x.feed(3, 1, 1, 1, v, 1));
            no("feed e " + v, BAD, x -> x.feed(4, 1, 1, 1, 1, v));
            no("feed e " + v + " of 5", BAD, x -> x.feed(5, 1, 1, 1, 1, v));
        }
        for (int n = 1; n <= 5; n++) {
            int many = n;
            noWhenFull("feed " + many, FULL, x -> x.feed(many, 1, 1, 1, 1, 1));
            Whole.Start roomForLess = () -> {
                CoalIsLent x = Worlds.some();
                Checks.feedAll(x, " ".repeat(160 - x.count(6) - many + 1));
                return x;
            };
            Whole.changesNothing("room for one less than " + many, roomForLess, FULL, x -> x.feed(many, 1, 1, 1, 1, 1));
        }
        noWhenFull("BAD n ahead of FULL", BAD, x -> x.feed(6, 1, 1, 1, 1, 1));
        noWhenFull("BAD e ahead of FULL", BAD, x -> x.feed(1, 1, 1, 1, 1, 256));
    }

    private static void text4() {
        noWhenFull("text(), THE TAPE stays", FULL, x -> x.text());
        Whole.changesNothing("text() of an empty TAPE", Worlds::fullOfTexts, FULL, x -> x.text());
        Whole.Start fine = () -> {
            CoalIsLent x = Worlds.fullOfTexts();
            Checks.feedAll(x, "grows 1;cools 1;burns 1;");
            return x;
        };
        Whole.changesNothing("text() of one that is fine", fine, FULL, x -> x.text());
        CoalIsLent x = fine.made();
        x.text();
        Checks.due("it stays", x.count(6), 24);
        // by a FAULT THE TAPE is empty then, and nothing else is otherwise
        Whole.changesAs("a FAULT", () -> {
            CoalIsLent y = Worlds.some();
            y.text();
            return y;
        }, -105, y -> {
            Checks.feedAll(y, "grows");
            return y.text();
        }, y -> 0);
    }

    private static void force5AndAsks6() {
        for (int t : Checks.outside(0, 1)) no("force(" + t + ")", BAD, x -> x.force(t));
        noWhenFull("force(6)", BAD, x -> x.force(6));
        for (int part : Checks.outside(0, 2)) no("asks part " + part, BAD, x -> x.asks(part, 0, 0));
        for (int h : NO_HUT) no("asks h " + h, BAD, x -> x.asks(0, h, 0));
        for (int coal : Checks.outside(0, 9999)) no("asks coal " + coal, BAD, x -> x.asks(2, 2, coal));
        noWhenFull("asks of HUT 6", BAD, x -> x.asks(0, 6, 0));
    }

    private static void hut7() {
        for (int kindMore : Checks.outside(0, 59)) {
            no("kindMore " + kindMore, BAD, x -> x.hut(kindMore, 0));
            noWhenFull("BAD ahead of FULL", BAD, x -> x.hut(kindMore, 0));
        }
        for (int heatWood : Checks.outside(0, 999999)) {
            no("heatWood " + heatWood, BAD, x -> x.hut(0, heatWood));
            noWhenFull("BAD ahead of FULL", BAD, x -> x.hut(59, heatWood));
        }
        noWhenFull("hut", FULL, x -> x.hut(0, 0));
    }

    private static void put8AndTold9() {
        int[] most = {9999, 99, 99};
        for (int h : NO_HUT) {
            no("put h " + h, NO_SUCH, x -> x.put(h, 0, 0));
            no("put h " + h + ", ahead of what, v", NO_SUCH, x -> x.put(h, 3, -1));
            no("told h " + h, NO_SUCH, x -> x.told(h, 0));
            no("told h " + h + ", ahead of what", NO_SUCH, x -> x.told(h, 8));
        }
        for (int what : Checks.outside(0, 2)) no("put what " + what, NOT_AS_TOLD, x -> x.put(0, what, 0));
        for (int what = 0; what < 3; what++) {
            int w = what;
            for (int v : Checks.outside(0, most[w])) {
                no("put(2, " + w + ", " + v + ")", NOT_AS_TOLD, x -> x.put(2, w, v));
            }
        }
        for (int what : Checks.outside(0, 7)) no("told what " + what, NOT_AS_TOLD, x -> x.told(2, what));
        noWhenFull("put of HUT 6", NO_SUCH, x -> x.put(6, 0, 0));
        noWhenFull("told of HUT 6", NO_SUCH, x -> x.told(6, 0));
    }

    private static void lend10OfWhom() {
        int[] none = {0, 11, 22, 33, 3, 13, 23, 30, 31, 32, -1, -2, -10, -12, 9, 90, 99, 100, 102, 201, LEAST, MOST};
        for (int fromTo : none) {
            no("lend(" + fromTo + ", 101)", NO_SUCH, x -> x.lend(fromTo, 101));
            no("lend(" + fromTo + ", 100), ahead of coalNights", NO_SUCH, x -> x.lend(fromTo, 100));
        }
        for (int fromTo : new int[] {55, 56, 65, 60, 6, 66}) {
            noWhenFull("lend(" + fromTo + ", 101), ahead of FULL", NO_SUCH, x -> x.lend(fromTo, 101));
        }
    }

    private static void lend10OfWhat() {
        // a COAL of 0, 0 nights, a COAL of 10000; all below 0
        int[] none = {0, 1, 99, 100, 200, 999900, 1000000, 1000001, 1000099, -1, -101, -199, LEAST, MOST};
        for (int coalNights : none) {
            no("lend(2, " + coalNights + ")", NOT_AS_TOLD, x -> x.lend(2, coalNights));
            no("ahead of COLD", NOT_AS_TOLD, x -> x.lend(12, coalNights));
            noWhenFull("ahead of FULL", NOT_AS_TOLD, x -> x.lend(1, coalNights));
        }
    }

    private static void lend10FullAndState() {
        noWhenFull("lend", FULL, x -> x.lend(1, 101));
        noWhenFull("FULL ahead of STATE: less HEAT", FULL, x -> x.lend(1, 999999));
        Whole.Start fullAndCold = () -> {
            CoalIsLent x = Worlds.full();
            x.put(0, 2, 1);
            return x;
        };
        Whole.changesNothing("FULL ahead of STATE: COLD", fullAndCold, FULL, x -> x.lend(1, 101));
        no("COLD", STATE, x -> x.lend(12, 101));
        Whole.Start coldFor1 = () -> {
            CoalIsLent x = Worlds.some();
            x.put(1, 2, 1);
            x.put(1, 0, 9999);
            return x;
        };
        Whole.changesNothing("COLD for 1, with all the HEAT", coldFor1, STATE, x -> x.lend(12, 101));
        Whole.Start oneLess = () -> {
            CoalIsLent x = Worlds.some();
            x.put(2, 0, 76);
            return x;
        };
        Whole.changesNothing("HEAT 1 less than the COAL", oneLess, STATE, x -> x.lend(20, 7701));
        no("the hottest COAL", STATE, x -> x.lend(2, 999999));
    }

    private static void loan11() {
        for (int k : Checks.outside(0, 2)) {
            no("loan k " + k, NO_SUCH, x -> x.loan(k, 0));
            no("loan k " + k + ", ahead of what", NO_SUCH, x -> x.loan(k, 4));
        }
        for (int what : Checks.outside(0, 3)) no("loan what " + what, NOT_AS_TOLD, x -> x.loan(2, what));
        noWhenFull("loan 10", NO_SUCH, x -> x.loan(10, 0));
    }

    private static void repay12() {
        for (int k : Checks.outside(0, 2)) no("repay k " + k, NO_SUCH, x -> x.repay(k));
        noWhenFull("repay 10", NO_SUCH, x -> x.repay(10));
        Whole.Start oneLess = () -> {
            CoalIsLent x = Worlds.some();
            x.put(1, 0, x.loan(0, 2) - 1);
            return x;
        };
        Whole.changesNothing("HEAT 1 less than the COAL", oneLess, STATE, x -> x.repay(0));
    }

    private static void forgive13() {
        for (int k : Checks.outside(0, 2)) no("forgive k " + k, NO_SUCH, x -> x.forgive(k));
        noWhenFull("forgive 10", NO_SUCH, x -> x.forgive(10));
    }

    private static void night14() {
        Whole.Start last = () -> {
            CoalIsLent x = Worlds.some();
            while (x.count(2) < 999) x.night();
            x.lend(20, 101);
            return x;
        };
        Whole.changesNothing("NIGHT 999", last, STATE, x -> x.night());
    }

    private static void run15AndLasts16() {
        for (int n : NO_NIGHTS) {
            no("run n " + n, BAD, x -> x.run(n, 0));
            no("run n " + n, BAD, x -> x.run(n, 12));
        }
        for (int what : new int[] {-1, 3, 4, 9, 13, 14, 16, LEAST, LEAST + 10, MOST}) {
            no("run what " + what, BAD, x -> x.run(1, what));
        }
        noWhenFull("run of HUT 6", BAD, x -> x.run(1, 16));
        for (int h : NO_HUT) {
            no("lasts h " + h, NO_SUCH, x -> x.lasts(h, 0));
            no("lasts h " + h + ", ahead of what", NO_SUCH, x -> x.lasts(h, 2));
        }
        for (int what : NO_WHAT) no("lasts what " + what, NOT_AS_TOLD, x -> x.lasts(2, what));
    }

    private static void debts17To20() {
        for (int h : NO_HUT) {
            no("net " + h, -1000000, x -> x.net(h));
            no("source " + h, NO_SUCH, x -> x.source(h));
        }
        for (int what : NO_WHAT) {
            no("settle " + what, BAD, x -> x.settle(what));
            no("rings " + what, BAD, x -> x.rings(what));
        }
        noWhenFull("net 6", -1000000, x -> x.net(6));
        noWhenFull("source 6", NO_SUCH, x -> x.source(6));
    }

    private static void ask21() {
        for (int h : NO_HUT) {
            no("ask h " + h, NO_SUCH, x -> x.ask(h, 101, 0));
            no("ask h " + h + ", ahead of coalNights, what", NO_SUCH, x -> x.ask(h, 100, 2));
        }
        int[] none = {0, 1, 39, 100, 140, 199, 200, 240, 999900, 999940, 999999, 1000000, 1000001, 1000039, -1, -101,
            LEAST, MOST};
        for (int coalNights : none) {
            no("ask(2, " + coalNights + ", 0)", NOT_AS_TOLD, x -> x.ask(2, coalNights, 0));
            noWhenFull("ask(2, " + coalNights + ", 1)", NOT_AS_TOLD, x -> x.ask(2, coalNights, 1));
        }
        for (int what : NO_WHAT) no("ask what " + what, NOT_AS_TOLD, x -> x.ask(2, 101, what));
        noWhenFull("lend() would refuse all", -1, x -> x.ask(0, 101, 0));
        noWhenFull("lend() would refuse all", -1, x -> x.ask(0, 101, 1));
    }

    private static void needs22() {
        for (int h : NO_HUT) {
            no("needs h " + h, NO_SUCH, x -> x.needs(h, 0));
            no("needs h " + h + ", ahead of n", NO_SUCH, x -> x.needs(h, 41));
        }
        for (int n : NO_NIGHTS) no("needs n " + n, NOT_AS_TOLD, x -> x.needs(2, n));
    }

    private static void mercy23AndWorst24() {
        for (int n : NO_NIGHTS) {
            no("mercy n " + n, BAD, x -> x.mercy(n, 0));
            no("worst n " + n, BAD, x -> x.worst(n, 0));
        }
        for (int what : NO_WHAT) {
            no("mercy what " + what, BAD, x -> x.mercy(1, what));
            no("worst what " + what, BAD, x -> x.worst(1, what));
        }
    }

    /** What judges by a SHEET refuses one HUT and one SHEET likewise: judge, kinds, states, laws, and whose. */
    private static void toldRefused(String what, int due, int s, int h) {
        no("judge, " + what, due, x -> x.judge(s, h));
        no("kinds, " + what, due, x -> x.kinds(s, h, 0));
        no("kinds, " + what + ", ahead of sort", due, x -> x.kinds(s, h, 2));
        no("states, " + what, due, x -> x.states(s, h, 0, 0));
        no("states, " + what + ", ahead of sort, what", due, x -> x.states(s, h, 3, 2));
        no("laws, " + what, due, x -> x.laws(s, h));
        if (due != NO_SUCH) no("whose, " + what, due, x -> x.whose(s));
    }

    private static void toldNights25To29() {
        for (int s : NO_SHEET) {
            toldRefused("SHEET " + s, BAD, s, 0);
            toldRefused("SHEET " + s + ", ahead of the HUT", BAD, s, 3);
        }
        toldRefused("a missing SHEET", NOTHING_THERE, 2, 0);
        toldRefused("a missing SHEET, ahead of the HUT", NOTHING_THERE, 2, 3);
        toldRefused("21 numbers", BAD, 3, 0);
        toldRefused("21 numbers, ahead of the HUT", BAD, 3, 3);
        for (int h : NO_HUT) toldRefused("HUT " + h, NO_SUCH, 0, h);
    }

    private static void kinds26AndStates27() {
        for (int sort : Checks.outside(0, 1)) no("kinds sort " + sort, NOT_AS_TOLD, x -> x.kinds(0, 2, sort));
        for (int sort : Checks.outside(0, 2)) no("states sort " + sort, NOT_AS_TOLD, x -> x.states(0, 2, sort, 0));
        for (int what : NO_WHAT) no("states what " + what, NOT_AS_TOLD, x -> x.states(0, 2, 2, what));
    }

    private static void film30() {
        for (int s : NO_SHEET) {
            no("film s " + s, BAD, x -> x.film(s, 0, 1));
            no("film s " + s + ", ahead of h, n", BAD, x -> x.film(s, 3, 21));
        }
        for (int h : NO_HUT) {
            no("film h " + h, NO_SUCH, x -> x.film(0, h, 1));
            no("film h " + h + ", ahead of n", NO_SUCH, x -> x.film(0, h, 21));
        }
        for (int n : Checks.outside(0, 20)) {
            no("film n " + n, NOT_AS_TOLD, x -> x.film(0, 2, n));
            no("film n " + n + ": a missing SHEET stays so", NOT_AS_TOLD, x -> x.film(2, 2, n));
        }
    }

    private static void drawn31() {
        for (int seed : Checks.outside(0, 99999)) no("drawn seed " + seed, BAD, x -> x.drawn(seed, 0, 0));
        for (int snow : Checks.outside(0, 999)) no("drawn snow " + snow, BAD, x -> x.drawn(0, snow, 1));
        for (int what : NO_WHAT) no("drawn what " + what, BAD, x -> x.drawn(0, 0, what));
    }

    private static void odds32() {
        long none = CoalIsLent.NO;
        for (int seed : Checks.outside(0, 99999)) no("odds seed " + seed, none, x -> x.odds(seed, 1, 0, 0, 0));
        for (int seeds : Checks.outside(1, 40)) no("odds seeds " + seeds, none, x -> x.odds(0, seeds, 0, 0, 0));
        for (int snow : Checks.outside(0, 999)) no("odds snow " + snow, none, x -> x.odds(0, 1, snow, 0, 0));
        for (int many : Checks.outside(0, 6)) no("odds many " + many, none, x -> x.odds(0, 1, 0, many, 0));
        for (int part : NO_WHAT) no("odds part " + part, none, x -> x.odds(0, 1, 0, 0, part));
    }

    private static void back34() {
        Whole.Start noImage = () -> {
            CoalIsLent x = Checks.withHuts(14, 25010, 0, 6005);
            x.lend(1, 1009);
            x.night();
            Checks.fill(x, 1, Worlds.INTS, 3, 4);
            Checks.feedAll(x, "abc");
            return x;
        };
        Whole.changesNothing("no IMAGE", noImage, STATE, x -> x.back());
        Whole.changesNothing("no IMAGE, again", noImage, STATE, x -> {
            x.back();
            return x.back();
        });
    }

    private static void sheet35() {
        for (int s : NO_SHEET) {
            no("sheet s " + s, BAD, x -> x.sheet(s, 0, 1));
            no("sheet s " + s + ", missing", BAD, x -> x.sheet(s, -1, 0));
            no("sheet s " + s + ", ahead of -14", BAD, x -> x.sheet(s, 0, -1));
        }
        for (int sort : Checks.outside(-1, 2)) {
            no("sheet sort " + sort, BAD, x -> x.sheet(0, sort, 1));
            no("sheet sort " + sort + ", ahead of -14", BAD, x -> x.sheet(0, sort, -1));
        }
        for (int sort = 0; sort < 3; sort++) {
            int like = sort;
            for (int n : new int[] {41, MOST}) no("sheet n " + n, BAD, x -> x.sheet(0, like, n));
            for (int n : new int[] {-1, LEAST}) no("sheet n " + n, BELOW_ZERO, x -> x.sheet(1, like, n));
            no("a missing one stays so", BAD, x -> x.sheet(2, like, 41));
            no("a missing one stays so", BELOW_ZERO, x -> x.sheet(2, like, -1));
        }
    }

    private static void cell36() {
        for (int s : NO_SHEET) {
            no("cell s " + s, BAD, x -> x.cell(s, 0, 1));
            no("cell s " + s + ", ahead of the place", BAD, x -> x.cell(s, -1, 1));
        }
        no("a missing SHEET", NOTHING_THERE, x -> x.cell(2, 0, 1));
        no("a missing SHEET, ahead of the place", NOTHING_THERE, x -> x.cell(2, -1, 1));
        for (int i : Checks.outside(0, 3)) no("cell of ints at " + i, OUTSIDE, x -> x.cell(0, i, 1));
        for (int i : Checks.outside(0, 2)) no("cell of shorts at " + i, OUTSIDE, x -> x.cell(1, i, 1));
        for (int i : Checks.outside(0, 20)) no("cell of bytes at " + i, OUTSIDE, x -> x.cell(3, i, 1));
        for (int i : Checks.outside(0, 39)) noWhenFull("cell at " + i, OUTSIDE, x -> x.cell(2, i, 1));
    }

    private static void copy37() {
        for (int s : NO_SHEET) {
            no("copy of SHEET " + s, BAD, x -> x.copy(s, 0, 0, 0, 1));
            no("copy to SHEET " + s, BAD, x -> x.copy(0, 0, s, 0, 1));
            no("copy of SHEET " + s + ", ahead of a missing one", BAD, x -> x.copy(s, 0, 2, 0, 1));
            no("copy to SHEET " + s + ", ahead of a missing one", BAD, x -> x.copy(2, 9, s, 9, -1));
        }
        no("copy of a missing SHEET", NOTHING_THERE, x -> x.copy(2, 0, 0, 0, 1));
        no("copy to a missing SHEET", NOTHING_THERE, x -> x.copy(0, 0, 2, 0, 1));
        no("copy of a missing SHEET to it", NOTHING_THERE, x -> x.copy(2, 0, 2, 0, 0));
        no("missing, ahead of a place outside", NOTHING_THERE, x -> x.copy(0, -1, 2, 9, -1));
        no("unlike sorts", UNLIKE, x -> x.copy(0, 0, 1, 0, 1));
        no("unlike sorts", UNLIKE, x -> x.copy(1, 0, 3, 0, 1));
        no("unlike sorts, ahead of a place outside", UNLIKE, x -> x.copy(3, 99, 0, -1, 1));
        no("unlike sorts, ahead of n below 0", UNLIKE, x -> x.copy(0, 0, 1, 0, -1));
    }

    private static void copy37Places() {
        int[][] none = {{-1, 0, 1}, {0, -1, 1}, {4, 0, 1}, {0, 4, 1}, {0, 0, 5}, {1, 0, 4}, {0, 1, 4}, {3, 0, 2},
            {0, 3, 2}, {0, 0, -1}, {4, 4, -1}, {2, 2, LEAST}, {-1, 0, 0}, {0, -1, 0}, {5, 0, 0}, {0, 5, 0},
            {LEAST, 0, 1}, {0, LEAST, 1}, {MOST, 0, 1}, {0, MOST, 1}, {0, 0, MOST}, {1, 1, MOST}, {MOST, MOST, MOST},
            {MOST, 0, 0}, {LEAST, LEAST, LEAST}, {-1, -1, MOST}};
        for (int[] a : none) {
            no("copy from " + a[0] + " to " + a[1] + ", " + a[2], OUTSIDE, x -> x.copy(0, a[0], 0, a[1], a[2]));
        }
        noWhenFull("copy of 41", OUTSIDE, x -> x.copy(2, 0, 3, 0, 41));
        noWhenFull("copy past the end of the one", OUTSIDE, x -> x.copy(2, 1, 3, 0, 40));
        noWhenFull("copy past the end of the other", OUTSIDE, x -> x.copy(2, 0, 3, 1, 40));
    }

    private static void hutsBy38() {
        for (int s : NO_SHEET) {
            no("hutsBy s " + s, BAD, x -> x.hutsBy(s, 2, 0, 1));
            no("hutsBy s " + s + ", of none", BAD, x -> x.hutsBy(s, 2, 0, 0));
        }
        for (int sort : Checks.outside(0, 2)) {
            no("hutsBy sort " + sort, BAD, x -> x.hutsBy(0, sort, 0, 1));
            no("hutsBy sort " + sort + ", ahead of a missing SHEET", BAD, x -> x.hutsBy(2, sort, 0, 1));
        }
        for (int n : Checks.outside(0, 6)) {
            no("hutsBy n " + n, BAD, x -> x.hutsBy(0, 2, 0, n));
            no("hutsBy n " + n + ", ahead of a missing SHEET", BAD, x -> x.hutsBy(2, 2, 0, n));
        }
        no("hutsBy a missing SHEET", NOTHING_THERE, x -> x.hutsBy(2, 2, 0, 1));
        no("hutsBy a missing SHEET, ahead of the place", NOTHING_THERE, x -> x.hutsBy(2, 0, -1, 1));
        no("hutsBy of another sort", UNLIKE, x -> x.hutsBy(0, 1, 0, 1));
        no("hutsBy of another sort, ahead of the place", UNLIKE, x -> x.hutsBy(1, 2, -1, 1));
        no("hutsBy of another sort, of none", UNLIKE, x -> x.hutsBy(3, 1, 0, 0));
        noWhenFull("none has room", 0, x -> x.hutsBy(2, 2, 0, 5));
    }

    private static void hutsBy38Outside() {
        for (int from : new int[] {-1, -2, 3, 4, 5, LEAST, LEAST + 1, MOST, MOST - 1}) {
            for (int n : new int[] {1, 6}) {
                no("hutsBy from " + from + ", " + n, OUTSIDE, x -> x.hutsBy(0, 2, from, n));
            }
        }
        // what stood ahead came: pairs (12, 34), (45, 50); 3 shorts are one pair, (7, 8)
        Whole.changesAs("three pairs of two", Worlds::some, OUTSIDE, x -> x.hutsBy(0, 2, 0, 3),
                x -> x.hut(12, 34) + x.hut(45, 50));
        Whole.changesAs("six pairs of one", Worlds::some, OUTSIDE, x -> x.hutsBy(0, 2, 2, 6), x -> x.hut(45, 50));
        Whole.changesAs("half a pair behind one", Worlds::some, OUTSIDE, x -> x.hutsBy(1, 1, 0, 2), x -> x.hut(7, 8));
    }

    private static void taken39() {
        for (int kind : Checks.outside(0, 6)) {
            no("taken kind " + kind, BAD, x -> x.taken(0, kind));
            no("taken kind " + kind + ", ahead of the place", BAD, x -> x.taken(-1, kind));
        }
        for (int i : Checks.outside(0, 11)) {
            no("taken at " + i, OUTSIDE, x -> x.taken(i, 0));
            no("taken at " + i, OUTSIDE, x -> x.taken(i, 6));
        }
        for (int i : new int[] {3, 4, 5, 9, 10, 11}) {
            no("no HUT at " + i, NOTHING_THERE, x -> x.taken(i, 0));
            no("no HUT at " + i + ", ahead of -13", NOTHING_THERE, x -> x.taken(i, i < 6 ? 6 : 5));
        }
        for (int kind = 0; kind < 6; kind++) {
            int k = kind;
            no("HEAT taken for a KIND", UNLIKE, x -> x.taken(6, k));
        }
        no("a HUT taken for HEAT", UNLIKE, x -> x.taken(2, 6));
        no("a WIDOW taken for a THATCH", UNLIKE, x -> x.taken(0, 3));
        no("a THATCH taken for an OVEN", UNLIKE, x -> x.taken(2, 2));
    }
}
