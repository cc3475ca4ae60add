import java.util.Random;

/** Runs of calls by chance (always the same ones), each answered by the class and by the Model. */
final class ModelTest {
    private static final int RUNS = 400, CALLS = 400;
    private static final int[] ODD = {-1, 0, 1, 2, 3, 4, 5, 6, 7, 9, 10, 11, 12, 15, 16, 20, 21, 39, 40, 41, 59, 60, 99,
        100, 101, 199, 255, 256, 999, 1000, 9999, 10000, 99999, 100000, 999999, 1000000, Integer.MAX_VALUE,
        Integer.MIN_VALUE, Integer.MAX_VALUE - 1, -100, -10, -2};

    private final Random lots;
    private final CoalIsLent x = new CoalIsLent();
    private final Model m = new Model();
    private final int[] a = new int[6];

    private ModelTest(long seed) {
        lots = new Random(seed);
    }

    public static void main(String[] args) {
        for (int run = 0; run < RUNS; run++) new ModelTest(run).play(run);
        Checks.finish();
    }

    private void play(int run) {
        if (lots.nextInt(8) != 0) startHuts();
        for (int i = 0; i < CALLS; i++) {
            if (lots.nextInt(40) == 0) judgeFilm();
            int call = chosen();
            draw(call);
            Checks.due("run " + run + ", call " + i + ": " + NAMES[call] + "(" + a[0] + ", " + a[1] + ", " + a[2]
                    + ", " + a[3] + ", " + a[4] + ", " + a[5] + ")", ofClass(call), ofModel(call));
        }
    }

    private void startHuts() {
        int many = lots.nextInt(7);
        for (int i = 0; i < many; i++) {
            int kindMore = lots.nextInt(60), heatWood = 100 * heat() + lots.nextInt(lots.nextBoolean() ? 5 : 100);
            Checks.due("hut", x.hut(kindMore, heatWood), m.hut(kindMore, heatWood));
        }
    }

    /** A film, told as it will be, or with one number otherwise; all that judges by it is asked. */
    private void judgeFilm() {
        int s = lots.nextInt(4), h = oneHut(), n = lots.nextInt(8), i = lots.nextInt(8), v = heat();
        Checks.due("film", x.film(s, h, n), m.film(s, h, n));
        if (lots.nextBoolean()) Checks.due("cell", x.cell(s, i, v), m.cell(s, i, v));
        int other = oneHut();
        Checks.due("judge", x.judge(s, h), m.judge(s, h));
        Checks.due("judge", x.judge(s, other), m.judge(s, other));
        Checks.due("whose", x.whose(s), m.whose(s));
        Checks.due("laws", x.laws(s, h), m.laws(s, h));
        for (int sort = 0; sort < 3; sort++) {
            Checks.due("kinds", x.kinds(s, h, sort), m.kinds(s, h, sort));
            int what = lots.nextInt(2);
            Checks.due("states", x.states(s, h, sort, what), m.states(s, h, sort, what));
        }
    }

    private int heat() {
        switch (lots.nextInt(6)) {
            case 0: return 0;
            case 1: return 9900 + lots.nextInt(100);
            case 2: return lots.nextInt(10000);
            case 3: return lots.nextInt(50);
            default: return lots.nextInt(500);
        }
    }

    // ---- which call, and by what

    private static final String[] NAMES = {"count", "feed", "text", "force", "asks", "hut", "put", "told", "lend",
        "loan", "repay", "forgive", "night", "run", "lasts", "net", "settle", "source", "rings", "ask", "needs",
        "mercy", "worst", "judge", "kinds", "states", "whose", "laws", "film", "drawn", "odds", "image", "back",
        "sheet", "cell", "copy", "hutsBy", "taken"};

    private int chosen() {
        int lot = lots.nextInt(100);
        if (lot < 25) return 8;                      // lend
        if (lot < 28) return 12;                     // night
        if (lot < 33) return 28;                     // film
        if (lot < 37) return 2;                      // text, with a tape
        int call = lots.nextInt(NAMES.length);
        // back() undoes a run's doings too often else
        return call == 32 && lots.nextInt(4) != 0 ? 7 : call;
    }

    private int few(int n) {
        return lots.nextInt(12) == 0 ? -1 + lots.nextInt(n + 2) : lots.nextInt(n);
    }

    /** A HUT, seldom none. */
    private int oneHut() {
        return lots.nextInt(15) == 0 ? few(7) : lots.nextInt(Math.max(1, m.now.huts.size()));
    }

    private void draw(int call) {
        for (int i = 0; i < a.length; i++) a[i] = few(6);
        switch (NAMES[call]) {
            case "count": a[0] = few(7); break;
            case "feed": drawFeed(); break;
            case "text": feedText(); break;
            case "asks": set(few(3), oneHut(), heat()); break;
            case "hut": set(few(60), 100 * heat() + few(100)); break;
            case "put": set(oneHut(), few(3), 0); a[2] = a[1] == 0 ? heat() : few(100); break;
            case "told": set(oneHut(), few(8)); break;
            case "lend": set(10 * oneHut() + oneHut(), 100 * coal() + 1 + few(8)); break;
            case "loan": set(few(Math.max(1, m.now.loans.size())), few(4)); break;
            case "repay":
            case "forgive": set(few(Math.max(1, m.now.loans.size()))); break;
            case "run": set(few(41), lots.nextBoolean() ? few(3) : 10 + oneHut()); break;
            case "lasts": set(oneHut(), few(2)); break;
            case "net":
            case "source": set(oneHut()); break;
            case "settle":
            case "rings": set(few(2)); break;
            case "ask": set(oneHut(), 100 * coal() + few(40), few(2)); break;
            case "needs": set(oneHut(), few(41)); break;
            case "mercy":
            case "worst": set(few(41), few(2)); break;
            case "judge":
            case "laws": set(few(4), oneHut()); break;
            case "kinds": set(few(4), oneHut(), few(2)); break;
            case "states": set(few(4), oneHut(), few(3), few(2)); break;
            case "whose": set(few(4)); break;
            case "film": set(few(4), oneHut(), few(lots.nextBoolean() ? 5 : 21)); break;
            case "drawn": set(few(100000), few(lots.nextBoolean() ? 100 : 1000), few(2)); break;
            case "odds": set(few(100000), few(41), few(lots.nextBoolean() ? 100 : 1000), few(7), few(2)); break;
            case "sheet": set(few(4), -1 + few(4), few(lots.nextBoolean() ? 21 : 41)); break;
            case "cell": set(few(4), few(lots.nextBoolean() ? 6 : 40), lots.nextInt(3) == 0 ? lots.nextInt() : heat());
                break;
            case "copy": set(few(4), few(10), few(4), few(10), few(10)); break;
            case "hutsBy": drawHutsBy(); break;
            case "taken": set(few(12), few(7)); break;
            default: break;
        }
        if (lots.nextInt(20) == 0 && call != 2) a[lots.nextInt(a.length)] = ODD[lots.nextInt(ODD.length)];
    }

    private void set(int... v) {
        System.arraycopy(v, 0, a, 0, v.length);
    }

    private int coal() {
        return lots.nextInt(4) == 0 ? heat() : 1 + lots.nextInt(60);
    }

    /** By a SHEET of that sort, mostly. */
    private void drawHutsBy() {
        int s = few(4);
        boolean known = s >= 0 && s < 4 && m.sorts[s] >= 0 && lots.nextInt(4) != 0;
        set(s, known ? m.sorts[s] : few(3), few(10), few(7));
    }

    private void drawFeed() {
        a[0] = 1 + few(5);
        for (int i = 1; i < 6; i++) a[i] = few(256);
    }

    // ---- texts by chance

    private void feedText() {
        if (lots.nextInt(10) == 0) return;
        StringBuilder b = new StringBuilder();
        String[] keys = {"grows", "cools", "burns"};
        for (String key : keys) {
            b.append(key).append(' ');
            either(b, lots.nextInt(4));
            b.append(blank()).append(';').append(blank());
        }
        if (lots.nextInt(3) == 0) spoil(b);
        if (b.length() > 160) b.setLength(lots.nextBoolean() ? 160 : 155);
        for (int i = 0; i < b.length(); i++) {
            int c = b.charAt(i);
            Checks.due("feed", x.feed(1, c, 0, 0, 0, 0), m.feed(1, c, 0, 0, 0, 0));
        }
    }

    private String blank() {
        return new String[] {"", "", " ", "\n", "  "}[lots.nextInt(5)];
    }

    private void spoil(StringBuilder b) {
        String[] with = {"x", "(", ")", "1", "not ", "-", "<", "or ", ";", "12345", "heat", "$", "A", "\t", "grows", ""};
        int at = lots.nextInt(b.length() + 1);
        if (lots.nextBoolean() && at < b.length()) b.deleteCharAt(at);
        b.insert(at, with[lots.nextInt(with.length)]);
    }

    private void either(StringBuilder b, int deep) {
        for (int i = lots.nextInt(6) == 0 ? 1 : 0; i >= 0; i--) {
            both(b, deep);
            if (i > 0) b.append(" or ");
        }
    }

    private void both(StringBuilder b, int deep) {
        for (int i = lots.nextInt(6) == 0 ? 1 : 0; i >= 0; i--) {
            negated(b, deep);
            if (i > 0) b.append(" and ");
        }
    }

    private void negated(StringBuilder b, int deep) {
        if (lots.nextInt(6) == 0) {
            b.append("not ");
            negated(b, deep - 1);
            return;
        }
        sum(b, deep);
        if (lots.nextInt(4) == 0) {
            b.append(blank()).append(lots.nextBoolean() ? '<' : '=').append(blank());
            sum(b, deep);
        }
    }

    private void sum(StringBuilder b, int deep) {
        for (int i = lots.nextInt(3) == 0 ? 1 : 0; i >= 0; i--) {
            term(b, deep);
            if (i > 0) b.append(lots.nextBoolean() ? '+' : '-').append(blank());
        }
    }

    private void term(StringBuilder b, int deep) {
        for (int i = lots.nextInt(4) == 0 ? 1 : 0; i >= 0; i--) {
            one(b, deep);
            if (i > 0) b.append('*').append(blank());
        }
    }

    private void one(StringBuilder b, int deep) {
        int lot = lots.nextInt(8);
        if (lot == 0 && deep > -3) {
            b.append('-');
            one(b, deep - 1);
        } else if (lot == 1 && deep > -2) {
            b.append('(');
            either(b, deep - 1);
            b.append(')');
        } else if (lot < 5) {
            b.append(lots.nextInt(new int[] {3, 20, 100, 10000}[lots.nextInt(4)])).append(blank());
        } else {
            b.append(new String[] {"heat", "wood", "night", "coal", "owed", "more"}[lots.nextInt(6)]);
        }
    }

    // ---- both answers

    private long ofClass(int call) {
        switch (NAMES[call]) {
            case "count": return x.count(a[0]);
            case "feed": return x.feed(a[0], a[1], a[2], a[3], a[4], a[5]);
            case "text": return x.text();
            case "force": return x.force(a[0]);
            case "asks": return x.asks(a[0], a[1], a[2]);
            case "hut": return x.hut(a[0], a[1]);
            case "put": return x.put(a[0], a[1], a[2]);
            case "told": return x.told(a[0], a[1]);
            case "lend": return x.lend(a[0], a[1]);
            case "loan": return x.loan(a[0], a[1]);
            case "repay": return x.repay(a[0]);
            case "forgive": return x.forgive(a[0]);
            case "night": return x.night();
            case "run": return x.run(a[0], a[1]);
            case "lasts": return x.lasts(a[0], a[1]);
            case "net": return x.net(a[0]);
            case "settle": return x.settle(a[0]);
            case "source": return x.source(a[0]);
            case "rings": return x.rings(a[0]);
            case "ask": return x.ask(a[0], a[1], a[2]);
            case "needs": return x.needs(a[0], a[1]);
            case "mercy": return x.mercy(a[0], a[1]);
            case "worst": return x.worst(a[0], a[1]);
            case "judge": return x.judge(a[0], a[1]);
            case "kinds": return x.kinds(a[0], a[1], a[2]);
            case "states": return x.states(a[0], a[1], a[2], a[3]);
            case "whose": return x.whose(a[0]);
            case "laws": return x.laws(a[0], a[1]);
            case "film": return x.film(a[0], a[1], a[2]);
            case "drawn": return x.drawn(a[0], a[1], a[2]);
            case "odds": return x.odds(a[0], a[1], a[2], a[3], a[4]);
            case "image": return x.image();
            case "back": return x.back();
            case "sheet": return x.sheet(a[0], a[1], a[2]);
            case "cell": return x.cell(a[0], a[1], a[2]);
            case "copy": return x.copy(a[0], a[1], a[2], a[3], a[4]);
            case "hutsBy": return x.hutsBy(a[0], a[1], a[2], a[3]);
            default: return x.taken(a[0], a[1]);
        }
    }

    private long ofModel(int call) {
        switch (NAMES[call]) {
            case "count": return m.count(a[0]);
            case "feed": return m.feed(a[0], a[1], a[2], a[3], a[4], a[5]);
            case "text": return m.text();
            case "force": return m.force(a[0]);
            case "asks": return m.asks(a[0], a[1], a[2]);
            case "hut": return m.hut(a[0], a[1]);
            case "put": return m.put(a[0], a[1], a[2]);
            case "told": return m.told(a[0], a[1]);
            case "lend": return m.lend(a[0], a[1]);
            case "loan": return m.loan(a[0], a[1]);
            case "repay": return m.repay(a[0]);
            case "forgive": return m.forgive(a[0]);
            case "night": return m.night();
            case "run": return m.run(a[0], a[1]);
            case "lasts": return m.lasts(a[0], a[1]);
            case "net": return m.net(a[0]);
            case "settle": return m.settle(a[0]);
            case "source": return m.source(a[0]);
            case "rings": return m.rings(a[0]);
            case "ask": return m.ask(a[0], a[1], a[2]);
            case "needs": return m.needs(a[0], a[1]);
            case "mercy": return m.mercy(a[0], a[1]);
            case "worst": return m.worst(a[0], a[1]);
            case "judge": return m.judge(a[0], a[1]);
            case "kinds": return m.kinds(a[0], a[1], a[2]);
            case "states": return m.states(a[0], a[1], a[2], a[3]);
            case "whose": return m.whose(a[0]);
            case "laws": return m.laws(a[0], a[1]);
            case "film": return m.film(a[0], a[1], a[2]);
            case "drawn": return m.drawn(a[0], a[1], a[2]);
            case "odds": return m.odds(a[0], a[1], a[2], a[3], a[4]);
            case "image": return m.image();
            case "back": return m.back();
            case "sheet": return m.sheet(a[0], a[1], a[2]);
            case "cell": return m.cell(a[0], a[1], a[2]);
            case "copy": return m.copy(a[0], a[1], a[2], a[3], a[4]);
            case "hutsBy": return m.hutsBy(a[0], a[1], a[2], a[3]);
            default: return m.taken(a[0], a[1]);
        }
    }
}
