/** Promises 35 to 39: sheet, cell, copy, hutsBy, taken. */
final class HostTest {
    private static final int BYTES = 0, SHORTS = 1, INTS = 2;

    private HostTest() {
    }

    public static void main(String[] args) {
        sheet();
        cell();
        copy();
        copyOverItself();
        copyRefusals();
        hutsBy();
        hutsByRefusals();
        hutsByFull();
        taken();
        takenRefusals();
        Checks.finish();
    }

    private static void sheet() {
        CoalIsLent x = Checks.withHuts(0, 0);
        int[][] bad = {{-1, 0, 1}, {4, 0, 1}, {0, -2, 1}, {0, 3, 1}, {0, 0, 41}, {4, -1, 1}, {0, 3, -1}, {4, 0, -1}};
        for (int[] a : bad) Checks.due("sheet", x.sheet(a[0], a[1], a[2]), -2);
        Checks.due("below 0", x.sheet(0, 0, -1), -14);
        Checks.due("below 0", x.sheet(0, 2, Integer.MIN_VALUE), -14);
        Checks.due("still missing", x.cell(0, 0, 0), -11);
        for (int s = 0; s < 4; s++) {
            Checks.due("sheet of 40", x.sheet(s, Math.min(s, 2), 40), 1);
            Checks.due("its last", x.cell(s, 39, 5), 1);
            Checks.due("behind it", x.cell(s, 40, 5), -12);
        }
        Checks.due("sheet of 0", x.sheet(1, 0, 0), 1);
        Checks.due("has none", x.cell(1, 0, 0), -12);
        // anew: all 0 again
        Checks.fill(x, 0, INTS, 7, 7, 7);
        Checks.due("7 is otherwise", x.judge(0, 0), 0);
        Checks.due("anew", x.sheet(0, INTS, 3), 1);
        Checks.due("all 0", x.judge(0, 0), -1);
        Checks.due("a refused one", x.sheet(0, INTS, 41), -2);
        Checks.due("is as it was", x.judge(0, 0), -1);
        for (int n : new int[] {-5, 0, 41, Integer.MAX_VALUE}) {
            Checks.due("missing, whatever n", x.sheet(0, -1, n), 1);
            Checks.due("missing", x.cell(0, 0, 0), -11);
        }
    }

    private static void cell() {
        CoalIsLent x = new CoalIsLent();
        x.sheet(0, INTS, 3);
        Checks.due("no SHEET -1", x.cell(-1, 0, 0), -2);
        Checks.due("no SHEET 4, ahead of the place", x.cell(4, 99, 0), -2);
        Checks.due("missing, ahead of the place", x.cell(1, 99, 0), -11);
        Checks.due("place 3", x.cell(0, 3, 0), -12);
        Checks.due("place -1", x.cell(0, -1, 0), -12);
        Checks.due("place 2", x.cell(0, 2, Integer.MAX_VALUE), 1);
        // what a number became is told by the HUT that comes of it
        int[][] due = {{BYTES, 256 + 47, 47}, {BYTES, 128, -1}, {BYTES, 200, -1}, {SHORTS, 65536 + 47, 47},
            {SHORTS, 303, -1}, {INTS, 47, 47}, {INTS, 65536 + 47, -1}, {INTS, 256 + 47, -1}};
        for (int[] d : due) {
            CoalIsLent y = new CoalIsLent();
            Checks.fill(y, 0, d[0], d[1], 5);
            Checks.due("a HUT by " + d[1], y.hutsBy(0, d[0], 0, 1), d[2] < 0 ? 0 : 1);
            if (d[2] >= 0) Checks.due("its KIND and MORE", 10 * y.told(0, 3) + y.told(0, 4), d[2]);
        }
        CoalIsLent z = new CoalIsLent();
        Checks.fill(z, 0, SHORTS, 0, 32767, 0, 32768, 0, 65536 + 32767);
        Checks.due("shorts are below 0 from 32768 on", z.hutsBy(0, SHORTS, 0, 3), 2);
        Checks.due("32767", z.told(1, 0), 327);
    }

    /** HUTS' HEAT by a SHEET of ints that holds pairs (0, 100 times HEAT). */
    private static void heatsBy(CoalIsLent x, int s, int... due) {
        x.image();
        Checks.due("HUTS by SHEET " + s, x.hutsBy(s, INTS, 0, due.length), due.length);
        for (int i = 0; i < due.length; i++) Checks.due("pair " + i, x.told(i, 0), due[i]);
        x.back();
    }

    private static void copy() {
        CoalIsLent x = new CoalIsLent();
        Checks.fill(x, 0, INTS, 0, 100, 0, 200, 0, 300);
        Checks.fill(x, 1, INTS, 0, 700, 0, 800);
        Checks.due("copy", x.copy(0, 2, 1, 0, 2), 2);
        heatsBy(x, 1, 2, 8);
        heatsBy(x, 0, 1, 2, 3);
        Checks.due("all of it", x.copy(1, 0, 0, 2, 4), 4);
        heatsBy(x, 0, 1, 2, 8);
        Checks.due("none", x.copy(0, 6, 1, 4, 0), 0);
        heatsBy(x, 1, 2, 8);
    }

    private static void copyOverItself() {
        CoalIsLent x = new CoalIsLent();
        Checks.fill(x, 0, INTS, 0, 100, 0, 200, 0, 300, 0, 400);
        Checks.due("forth", x.copy(0, 0, 0, 2, 6), 6);
        heatsBy(x, 0, 1, 1, 2, 3);
        Checks.due("and back", x.copy(0, 2, 0, 0, 6), 6);
        heatsBy(x, 0, 1, 2, 3, 3);
        Checks.due("onto itself", x.copy(0, 0, 0, 0, 8), 8);
        heatsBy(x, 0, 1, 2, 3, 3);
    }

    private static void copyRefusals() {
        CoalIsLent x = new CoalIsLent();
        Checks.fill(x, 0, INTS, 0, 100, 0, 200);
        Checks.fill(x, 1, SHORTS, 0, 100, 0, 200);
        Checks.fill(x, 2, INTS, 0, 300);
        int[][] all = {{-1, 0, 0, 0, 1, -2}, {4, 0, 0, 0, 1, -2}, {0, 0, 4, 0, 1, -2}, {3, 0, -1, 0, 1, -2},
            {3, 0, 0, 0, 1, -11}, {0, 0, 3, 0, 1, -11}, {3, 9, 3, 9, 9, -11}, {0, 0, 1, 0, 1, -13},
            {0, 9, 1, 9, -9, -13}, {0, 0, 2, 0, -1, -12}, {0, -1, 2, 0, 1, -12}, {0, 0, 2, -1, 1, -12},
            {0, 0, 2, 0, 3, -12}, {0, 3, 2, 0, 2, -12}, {0, 0, 2, 1, 2, -12}, {0, 5, 2, 0, 0, -12},
            {0, 0, 2, 3, 0, -12}, {0, 1, 2, 0, Integer.MAX_VALUE, -12}, {0, Integer.MAX_VALUE, 2, 0, 1, -12},
            {0, 0, 2, Integer.MAX_VALUE, Integer.MAX_VALUE, -12}};
        for (int[] a : all) {
            Checks.due("copy(" + a[0] + ", " + a[1] + ", " + a[2] + ", " + a[3] + ", " + a[4] + ")",
                    x.copy(a[0], a[1], a[2], a[3], a[4]), a[5]);
        }
        heatsBy(x, 0, 1, 2);
        heatsBy(x, 2, 3);
    }

    private static void hutsBy() {
        CoalIsLent x = new CoalIsLent();
        Checks.fill(x, 0, INTS, 47, 9900, 59, 1000000, 60, 5, 36, 999999, 13);
        Checks.due("two of four", x.hutsBy(0, INTS, 0, 4), 2);
        Checks.due("two came", x.count(0), 2);
        Checks.due("KIND", x.told(1, 3), 3);
        Checks.due("MORE", x.told(1, 4), 6);
        Checks.due("HEAT", x.told(1, 0), 9999);
        Checks.due("WOOD", x.told(1, 1), 99);
        Checks.due("from a place on", x.hutsBy(0, INTS, 6, 1), 1);
        Checks.due("HEAT", x.told(2, 0), 9999);
        Checks.due("none of them", x.hutsBy(0, INTS, 0, 0), 0);
        Checks.due("none, from nowhere", x.hutsBy(0, INTS, -7, 0), 0);
        Checks.due("half a pair", x.hutsBy(0, INTS, 8, 1), -12);
        Checks.due("what stood ahead came", x.hutsBy(0, INTS, 6, 2), -12);
        Checks.due("four now", x.count(0), 4);
        for (int from : new int[] {-1, -2, 9, 10, Integer.MAX_VALUE, Integer.MIN_VALUE, Integer.MAX_VALUE - 1}) {
            Checks.due("from " + from, x.hutsBy(0, INTS, from, 6), -12);
        }
        Checks.due("four yet", x.count(0), 4);
    }

    private static void hutsByRefusals() {
        CoalIsLent x = new CoalIsLent();
        Checks.fill(x, 0, SHORTS, 0, 100);
        int[][] all = {{-1, SHORTS, 0, 1, -2}, {4, SHORTS, 0, 1, -2}, {0, -1, 0, 1, -2}, {0, 3, 0, 1, -2},
            {0, SHORTS, 0, -1, -2}, {0, SHORTS, 0, 7, -2}, {1, SHORTS, 0, 7, -2}, {1, SHORTS, 9, 1, -11},
            {0, INTS, 9, 1, -13}, {0, BYTES, 0, 0, -13}, {0, SHORTS, 1, 1, -12}};
        for (int[] a : all) Checks.due("hutsBy", x.hutsBy(a[0], a[1], a[2], a[3]), a[4]);
        Checks.due("none came", x.count(0), 0);
    }

    private static void hutsByFull() {
        CoalIsLent x = Checks.withHuts(0, 100, 0, 100, 0, 100, 0, 100);
        Checks.fill(x, 0, BYTES, 1, 1, 2, 2, 3, 3, 4, 4);
        Checks.due("there is room for two", x.hutsBy(0, BYTES, 0, 4), 2);
        Checks.due("six", x.count(0), 6);
        Checks.due("the last one", x.told(5, 4), 2);
        Checks.due("FULL, and outside", x.hutsBy(0, BYTES, 6, 2), -12);
    }

    private static void taken() {
        CoalIsLent x = Checks.withHuts(0, 100, 10, 200, 20, 300, 30, 400, 40, 500, 50, 600);
        int[] kindsOf = {1, 1 + 2, 1 + 4, 1 + 2 + 8, 1 + 4 + 16, 1 + 32};
        for (int h = 0; h < 6; h++) {
            for (int kind = 0; kind < 6; kind++) {
                boolean is = (kindsOf[h] >> kind & 1) == 1;
                Checks.due("taken(" + h + ", " + kind + ")", x.taken(h, kind), is ? h : -13);
                Checks.due("taken(" + (6 + h) + ", " + kind + ")", x.taken(6 + h, kind), -13);
            }
            Checks.due("taken(" + h + ", 6)", x.taken(h, 6), -13);
            Checks.due("taken(" + (6 + h) + ", 6)", x.taken(6 + h, 6), h + 1);
        }
    }

    private static void takenRefusals() {
        CoalIsLent x = Checks.withHuts(0, 100);
        Checks.due("kind 7", x.taken(0, 7), -2);
        Checks.due("kind -1, ahead of the place", x.taken(99, -1), -2);
        Checks.due("place 12", x.taken(12, 0), -12);
        Checks.due("place -1", x.taken(-1, 6), -12);
        Checks.due("no HUT 1", x.taken(1, 0), -11);
        Checks.due("no HUT 1, ahead of -13", x.taken(1, 6), -11);
        Checks.due("no HEAT of 1", x.taken(7, 6), -11);
        Checks.due("no HEAT of 1, ahead of -13", x.taken(7, 0), -11);
    }
}
