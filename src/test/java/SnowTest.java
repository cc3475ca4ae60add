/** Promises 31 to 34: drawn, odds, image, back. */
final class SnowTest {
    private SnowTest() {
    }

    public static void main(String[] args) {
        drawn();
        drawnRefusals();
        odds();
        oddsRefusals();
        imageAndBack();
        backTwice();
        Checks.finish();
    }

    /** LOTS of seed 0: 48271, 182605794, 1291394886, 1914720637, 2078669041: HUTS 1, 0, 0, 1, 1 of three. */
    private static void drawn() {
        CoalIsLent x = Checks.withHuts(0, 10000, 0, 10000, 0, 10000);
        Checks.underLaw(x, "0", "0", "0");
        String before = Checks.all(x);
        Checks.due("HEAT of all", x.drawn(0, 30, 1), 40 + 10 + 100);
        Checks.due("0 at least", x.drawn(0, 40, 1), 20 + 0 + 100);
        Checks.due("no snow", x.drawn(0, 0, 1), 300);
        Checks.due("nobody FAILED", x.drawn(0, 999, 0), 0);
        Checks.same("drawn()", before, x);
        Checks.underLaw(x, "0", "2", "0");
        Checks.due("ahead of five NIGHTS", x.drawn(0, 0, 1), 270);
        Checks.due("ahead of each NIGHT", x.drawn(0, 95, 1), 0 + 0 + 90);
        Checks.underLaw(x, "0", "0", "0");
        x.lend(21, 1001);
        Checks.due("HUT 1 FAILED", x.drawn(0, 105, 0), 2);
        Checks.due("HEAT of all", x.drawn(0, 105, 1), 90);
        Checks.due("just enough", x.drawn(0, 100, 0), 0);
        Checks.due("HEAT of all", x.drawn(0, 100, 1), 100);
        Checks.due("another seed", x.drawn(1, 105, 0), 0);
    }

    private static void drawnRefusals() {
        CoalIsLent x = new CoalIsLent();
        Checks.due("no HUTS", x.drawn(99999, 999, 0), 0);
        Checks.due("no HUTS", x.drawn(0, 0, 1), 0);
        Checks.due("one HUT", Checks.withHuts(0, 10000).drawn(0, 10, 1), 100 - 5 * 10 - 5 * 2);
        Checks.due("seed -1", x.drawn(-1, 0, 0), -2);
        Checks.due("seed 100000", x.drawn(100000, 0, 0), -2);
        Checks.due("snow -1", x.drawn(0, -1, 0), -2);
        Checks.due("snow 1000", x.drawn(0, 1000, 0), -2);
        Checks.due("what -1", x.drawn(0, 0, -1), -2);
        Checks.due("what 2", x.drawn(0, 0, 2), -2);
    }

    private static void odds() {
        CoalIsLent x = Checks.withHuts(0, 10000, 0, 10000, 0, 10000);
        Checks.underLaw(x, "0", "0", "0");
        x.lend(21, 1001);
        String before = Checks.all(x);
        // seeds 0 and 3 take HUT 1's HEAT first, 1 and 2 do not
        Checks.due("1 of 1", x.odds(0, 1, 105, 1, 0), 1);
        Checks.due("1 of 1", x.odds(0, 1, 105, 1, 1), 1);
        Checks.due("0 of 1", x.odds(1, 1, 105, 1, 0), 0);
        Checks.due("0 of 2", x.odds(1, 2, 105, 1, 1), 1);
        Checks.due("1 of 3", x.odds(0, 3, 105, 1, 0), 1);
        Checks.due("1 of 3", x.odds(0, 3, 105, 1, 1), 3);
        Checks.due("2 of 4", x.odds(0, 4, 105, 1, 0), 1);
        Checks.due("2 of 4", x.odds(0, 4, 105, 1, 1), 2);
        Checks.due("all have 0 or more", x.odds(0, 4, 105, 0, 0), 1);
        Checks.due("all have 0 or more", x.odds(0, 4, 105, 0, 1), 1);
        Checks.due("none has 2", x.odds(0, 4, 105, 2, 0), 0);
        Checks.due("none has 2", x.odds(0, 4, 105, 2, 1), 1);
        Checks.due("past 99999", x.odds(99999, 40, 0, 0, 0), 1);
        Checks.same("odds()", before, x);
        Checks.due("no HUTS", new CoalIsLent().odds(0, 3, 0, 0, 1), 1);
        Checks.due("no HUTS", new CoalIsLent().odds(0, 3, 0, 1, 0), 0);
    }

    private static void oddsRefusals() {
        CoalIsLent x = Checks.withHuts(0, 10000);
        int[][] all = {{-1, 1, 0, 0, 0}, {100000, 1, 0, 0, 0}, {0, 0, 0, 0, 0}, {0, 41, 0, 0, 0}, {0, 1, -1, 0, 0},
            {0, 1, 1000, 0, 0}, {0, 1, 0, -1, 0}, {0, 1, 0, 7, 0}, {0, 1, 0, 0, -1}, {0, 1, 0, 0, 2}};
        for (int[] a : all) Checks.due("odds", x.odds(a[0], a[1], a[2], a[3], a[4]), CoalIsLent.NO);
        Checks.due("NO", CoalIsLent.NO, -4611686018427387904L);
        Checks.due("the last that does", x.odds(99999, 40, 999, 6, 1), 1);
    }

    private static void imageAndBack() {
        CoalIsLent x = Checks.withHuts(13, 10005, 25, 5000);
        Checks.textOf(x, "grows 3;cools 3;burns 3;");
        Checks.due("no IMAGE", x.back(), -3);
        x.lend(1, 2005);
        x.lend(10, 1007);
        x.put(1, 2, 4);
        x.night();
        String kept = Checks.all(x);
        Checks.due("image", x.image(), 2);
        Checks.same("image()", kept, x);
        x.hut(50, 777);
        x.lend(2, 101);
        x.forgive(0);
        x.put(0, 0, 1);
        x.put(0, 1, 1);
        x.put(1, 2, 0);
        x.force(1);
        x.night();
        Checks.due("back", x.back(), 2);
        Checks.same("image() and back()", kept, x);
        Checks.due("HUT 2 is none", x.told(2, 0), -5);
    }

    private static void backTwice() {
        CoalIsLent x = Checks.withHuts(0, 10005);
        x.image();
        String kept = Checks.all(x);
        x.night();
        x.back();
        x.hut(0, 100);
        x.night();
        Checks.due("back again", x.back(), 1);
        Checks.same("the second back()", kept, x);
        Checks.fill(x, 0, 2, 108);
        Checks.textOf(x, "grows 3;cools 3;burns 3;");
        Checks.feedAll(x, "abc");
        Checks.due("back once more", x.back(), 1);
        Checks.due("TEXTS stay", x.count(4), 2);
        Checks.due("THE TAPE stays", x.count(6), 3);
        Checks.due("SHEETS stay", x.judge(0, 0), -1);
        Checks.due("a HUT anew", x.hut(35, 4506), 1);
        Checks.due("a later IMAGE", x.image(), 2);
        x.night();
        Checks.due("is the one that counts", x.back(), 2);
        Checks.due("HEAT", x.told(1, 0), 45);
        Checks.due("KIND", x.told(1, 3), 3);
        Checks.due("no HUTS in an IMAGE", new CoalIsLent().image(), 0);
    }
}
