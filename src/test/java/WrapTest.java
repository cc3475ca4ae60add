/** What wraps around: an E of 32 bits; numbers of SHEETS of bytes and shorts. */
final class WrapTest {
    private static final int BYTES = 0, SHORTS = 1, INTS = 2;
    /** 2147483648, which wraps to the least int. */
    private static final String LEAST = "4096*4096*128";
    private static final String MOST = "(4096*4096*128-1)";
    private static final String ZERO = "4096*4096*256";

    private WrapTest() {
    }

    public static void main(String[] args) {
        sumsWrap();
        productsWrap();
        comparesDoNotWrap();
        whatIsNot0IsTrue();
        ofOrAndNot1Or0();
        wrapsInANight();
        bytesWrap();
        shortsWrap();
        intsDoNot();
        wrappedNumbersAreCopied();
        Checks.finish();
    }

    private static void value(String e, int due) {
        CoalIsLent x = Checks.underLaw(Checks.withHuts(9, 999999), e, e, e);
        for (int part = 0; part < 3; part++) Checks.due(e + ", part " + part, x.asks(part, 0, 9999), due);
    }

    private static void sumsWrap() {
        value(LEAST + " < 0", 1);
        value(LEAST, 0);
        value(MOST, 99);
        value(MOST + " + 1", 0);
        value(MOST + " + 1 = " + LEAST, 1);
        value(LEAST + " - 1", 99);
        value(LEAST + " - 1 = " + MOST, 1);
        value(MOST + " + " + MOST + " + 2", 0);
        value(MOST + " + " + MOST + " + 9", 7);
        value(LEAST + " + " + LEAST, 0);
        value(LEAST + " + " + LEAST + " + 5", 5);
        value("3 - " + LEAST + " - " + LEAST, 3);
        value("-" + MOST + " - 2", 99);
        value("-" + MOST + " - 2 = " + MOST, 1);
    }

    private static void productsWrap() {
        value(ZERO, 0);
        value(ZERO + " + 7", 7);
        value(ZERO + " = 0", 1);
        value(MOST + " * 2", 0);
        value(MOST + " * 2 + 4", 2);
        value(MOST + " * " + MOST, 1);
        value("-(" + LEAST + ")", 0);
        value("-(" + LEAST + ") = " + LEAST, 1);
        value("-" + MOST + " < 0", 1);
        value("9999*9999*9999 < 0", 9999 * 9999 * 9999 < 0 ? 1 : 0);
        value("9999*9999*9999*9999 < 0", 9999 * 9999 * 9999 * 9999 < 0 ? 1 : 0);
        value("heat*heat*heat < 0", 9999 * 9999 * 9999 < 0 ? 1 : 0);
        value("coal*heat*coal < 0", 9999 * 9999 * 9999 < 0 ? 1 : 0);
        value("9999*9999", 99);
        value("9999*-9999", 0);
    }

    private static void comparesDoNotWrap() {
        value(LEAST + " < 1", 1);
        value("1 < " + LEAST, 0);
        value(LEAST + " < " + MOST, 1);
        value(MOST + " < " + LEAST, 0);
        value(MOST + " < -1", 0);
        value("-1 < " + MOST, 1);
        value("-2 < " + MOST + " + 0", 1);
        value(MOST + " = " + LEAST, 0);
        value(MOST + " = " + MOST, 1);
        value(LEAST + " < " + LEAST, 0);
    }

    private static void whatIsNot0IsTrue() {
        for (String e : new String[] {"1", "2", "9999", "-1", MOST, "(" + LEAST + ")"}) {
            value("not " + e, 0);
            value("not not " + e, 1);
            value(e + " and 1", 1);
            value("1 and " + e, 1);
            value(e + " or 0", 1);
            value("0 or " + e, 1);
            value(e + " and 0", 0);
            value("0 and " + e, 0);
        }
        for (String e : new String[] {"0", "0000", "-0", ZERO, "1-1"}) {
            value("not " + e, 1);
            value(e + " and 1", 0);
            value("1 and " + e, 0);
            value(e + " or 0", 0);
            value("0 or " + e, 0);
        }
    }

    private static void ofOrAndNot1Or0() {
        value("(7 or 9) + 5", 6);
        value("(7 and 9) + 5", 6);
        value("(0 or 0) + 5", 5);
        value("(7 and 0) + 5", 5);
        value("(not 7) + 5", 5);
        value("(not 0) + 5", 6);
        value("(7 < 9) + 5", 6);
        value("(9 < 9) + 5", 5);
        value("(9 < 7) + 5", 5);
        value("(9 = 9) + 5", 6);
        value("(7 = 9) + 5", 5);
        value("-(7 or 9) + 5", 4);
    }

    private static void wrapsInANight() {
        CoalIsLent x = Checks.underLaw(Checks.withHuts(0, 10001, 0, 0), "coal * " + LEAST + " + 3", MOST + " + heat",
                LEAST + " + " + LEAST + " + 4");
        x.lend(1, 209);
        x.night();
        Checks.due("an even COAL times the least int, and 3", x.loan(0, 2), 5);
        Checks.due("burns 4; cools what wraps below 0", x.told(0, 0), 98 + 4);
        x.night();
        Checks.due("an odd COAL: below 0, and so 0", x.loan(0, 2), 5);
    }

    /** What a number becomes: told by the HUT that comes of it, or left out if it is below 0 or too much. */
    private static void becomes(int sort, int v, int due) {
        CoalIsLent x = new CoalIsLent();
        Checks.fill(x, 0, sort, 0, v);
        boolean comes = due >= 0 && due <= 999999;
        Checks.due("a HUT of sort " + sort + " by " + v, x.hutsBy(0, sort, 0, 1), comes ? 1 : 0);
        if (comes) Checks.due(v + " is", 100 * x.told(0, 0) + x.told(0, 1), due);
        if (due > 9999) return;
        // and as HEAT that is told: below 0 it is nobody's
        CoalIsLent y = Worlds.calm(0, 100 * Math.max(due, 0));
        Checks.fill(y, 0, sort, v);
        Checks.due("HEAT by " + v, y.judge(0, 0), due >= 0 ? -1 : 0);
        if (due < 0 && sort == BYTES) {
            y.put(0, 0, v & 255);
            Checks.due("HEAT by the bits of " + v, y.judge(0, 0), 0);
        }
    }

    private static void bytesWrap() {
        int[][] all = {{0, 0}, {1, 1}, {127, 127}, {128, -128}, {129, -127}, {200, -56}, {255, -1}, {256, 0}, {257, 1},
            {383, 127}, {384, -128}, {-1, -1}, {-128, -128}, {-129, 127}, {-256, 0}, {-255, 1}, {65536 + 77, 77},
            {32767, -1}, {32768, 0}, {Integer.MAX_VALUE, -1}, {Integer.MIN_VALUE, 0}, {Integer.MIN_VALUE + 5, 5}};
        for (int[] a : all) becomes(BYTES, a[0], a[1]);
    }

    private static void shortsWrap() {
        int[][] all = {{0, 0}, {127, 127}, {128, 128}, {255, 255}, {256, 256}, {9999, 9999}, {32767, 32767},
            {32768, -32768}, {65535, -1}, {65536, 0}, {65537, 1}, {98303, 32767}, {98304, -32768}, {-1, -1},
            {-32768, -32768}, {-32769, 32767}, {-65536, 0}, {-65535, 1}, {999999, 16959}, {Integer.MAX_VALUE, -1},
            {Integer.MIN_VALUE, 0}, {Integer.MIN_VALUE + 5, 5}};
        for (int[] a : all) becomes(SHORTS, a[0], a[1]);
    }

    private static void intsDoNot() {
        int[] all = {0, 127, 128, 255, 256, 32767, 32768, 65535, 65536, 999999, 1000000, -1, -128, -129, -32769,
            Integer.MAX_VALUE, Integer.MIN_VALUE};
        for (int v : all) becomes(INTS, v, v);
    }

    private static void wrappedNumbersAreCopied() {
        int[][] all = {{BYTES, 384 + 7, -121}, {BYTES, 256 + 7, 7}, {SHORTS, 65536 + 307, 307}, {INTS, 65536, 65536}};
        for (int[] a : all) {
            CoalIsLent x = new CoalIsLent();
            Checks.fill(x, 0, a[0], a[1], a[1]);
            x.sheet(1, a[0], 2);
            Checks.due("copy", x.copy(0, 1, 1, 1, 1), 1);
            Checks.due("a HUT by it", x.hutsBy(1, a[0], 0, 1), a[2] < 0 ? 0 : 1);
            if (a[2] >= 0) Checks.due("as it was", 100 * x.told(0, 0) + x.told(0, 1), a[2]);
        }
    }
}
