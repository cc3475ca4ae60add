/**
 * All that an object holds, read by the face alone: what Checks.all() tells, the SHEETS, the TEXTS, THE TAPE and the
 * IMAGE. The reading uses the object up, so that two objects made alike are read: one with a call, one without.
 */
final class Whole {
    interface Start {
        CoalIsLent made();
    }

    interface Call {
        long on(CoalIsLent x);
    }

    private Whole() {
    }

    /** A call that is refused, or only asks: its answer, and that it changes nothing. */
    static void changesNothing(String what, Start start, long due, Call call) {
        changesAs(what, start, due, call, x -> 0);
    }

    /** A call's answer, and that it changes just what the other calls do. */
    static void changesAs(String what, Start start, long due, Call call, Call others) {
        CoalIsLent x = start.made();
        Checks.due(what, call.on(x), due);
        CoalIsLent y = start.made();
        others.on(y);
        Checks.dueText("all behind " + what, of(x), of(y));
    }

    static String of(CoalIsLent x) {
        StringBuilder b = new StringBuilder(Checks.all(x));
        int[] sorts = new int[4];
        int[] sizes = new int[4];
        for (int s = 0; s < 4; s++) {
            sorts[s] = sortOf(x, s);
            sizes[s] = sizeOf(x, s);
            b.append("| sort ").append(sorts[s]).append(" of ").append(sizes[s]).append(' ');
        }
        b.append("| text ").append(x.text());
        addTexts(b, x);
        b.append("| back ").append(x.back()).append(' ').append(Checks.all(x));
        for (int s = 0; s < 4; s++) addNumbers(b, x, s, sorts[s], sizes[s]);
        return b.toString();
    }

    static int sortOf(CoalIsLent x, int s) {
        for (int sort = 0; sort < 3; sort++) {
            if (x.hutsBy(s, sort, 0, 0) == 0) return sort;
        }
        return -1;
    }

    static int sizeOf(CoalIsLent x, int s) {
        int size = -1;
        while (x.copy(s, size + 1, s, size + 1, 0) == 0) size++;
        return size;
    }

    private static void addTexts(StringBuilder b, CoalIsLent x) {
        if (x.count(0) == 0) x.hut(7, 6005);
        for (int t = 0; t < x.count(4); t++) {
            x.force(t);
            for (int part = 0; part < 3; part++) {
                for (int coal : new int[] {0, 98, 9999}) b.append(' ').append(x.asks(part, 0, coal));
            }
        }
    }

    /** Two by two, as HUTS that come by them; the tests hold numbers in SHEETS that HUTS can come by. */
    private static void addNumbers(StringBuilder b, CoalIsLent x, int s, int sort, int size) {
        x.image();
        b.append("| SHEET ").append(s);
        for (int i = 0; i + 1 < size; i = i + 3 == size ? i + 1 : i + 2) {
            int h = x.count(0);
            b.append(' ').append(x.hutsBy(s, sort, i, 1)).append(':');
            for (int what : new int[] {3, 4, 0, 1}) b.append(x.told(h, what)).append(',');
            x.back();
        }
    }
}
