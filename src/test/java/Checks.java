/** What the tests share: answers that are due, and short ways to make things. */
final class Checks {
    private static int wrong = 0;
    private static int asked = 0;

    private Checks() {
    }

    static void due(String what, long got, long want) {
        asked++;
        if (got != want) {
            wrong++;
            System.out.println(what + " answered " + got + ", due is " + want);
        }
    }

    static void dueText(String what, String got, String want) {
        asked++;
        if (!got.equals(want)) {
            wrong++;
            System.out.println(what + " is " + got + ", due is " + want);
        }
    }

    /** Numbers just outside of what is taken, and as far outside as can be. */
    static int[] outside(int least, int most) {
        return new int[] {least - 1, most + 1, Integer.MIN_VALUE, Integer.MAX_VALUE};
    }

    /** Prints how many answers were as due, and ends with exit code 1 if any was not. */
    static void finish() {
        System.out.println(asked + " answers, " + wrong + " not as due");
        if (wrong != 0) System.exit(1);
    }

    /** A new object with such HUTS: kindMore, heatWood, kindMore, heatWood, ... */
    static CoalIsLent withHuts(int... pairs) {
        CoalIsLent x = new CoalIsLent();
        for (int i = 0; i < pairs.length; i += 2) {
            due("hut(" + pairs[i] + ", " + pairs[i + 1] + ")", x.hut(pairs[i], pairs[i + 1]), i / 2);
        }
        return x;
    }

    static void feedAll(CoalIsLent x, String bytes) {
        for (int i = 0; i < bytes.length(); i++) {
            x.feed(1, bytes.charAt(i), 0, 0, 0, 0);
        }
    }

    static int textOf(CoalIsLent x, String bytes) {
        feedAll(x, bytes);
        return x.text();
    }

    /** The object's THE LAW becomes such a TEXT. */
    static CoalIsLent underLaw(CoalIsLent x, String grows, String cools, String burns) {
        int t = textOf(x, "grows " + grows + ";cools " + cools + ";burns " + burns + ";");
        due("a TEXT of " + grows + ", " + cools + ", " + burns + " is one", t >= 0 ? 1 : 0, 1);
        x.force(t);
        return x;
    }

    /** A SHEET of a sort becomes such numbers. */
    static void fill(CoalIsLent x, int s, int sort, int... numbers) {
        due("sheet", x.sheet(s, sort, numbers.length), 1);
        for (int i = 0; i < numbers.length; i++) {
            due("cell", x.cell(s, i, numbers[i]), 1);
        }
    }

    /** All that the face tells of an object, but its SHEETS. */
    static String all(CoalIsLent x) {
        StringBuilder b = new StringBuilder();
        for (int what = 0; what <= 6; what++) b.append(x.count(what)).append(' ');
        for (int h = 0; h < 6; h++) {
            for (int what = 0; what <= 7; what++) b.append(x.told(h, what)).append(' ');
        }
        for (int k = 0; k < 10; k++) {
            for (int what = 0; what <= 3; what++) b.append(x.loan(k, what)).append(' ');
        }
        return b.toString();
    }

    static void same(String what, String before, CoalIsLent x) {
        dueText("all behind " + what, all(x), before);
    }
}
