/** Objects that tests start from: one with some of everything, one with as much of everything as can be. */
final class Worlds {
    static final int BYTES = 0, SHORTS = 1, INTS = 2;
    static final String TEXT_1 = "grows owed+3;cools wood;burns heat*coal+night-more;";

    private Worlds() {
    }

    /**
     * 3 HUTS, the last of which came behind the IMAGE, 3 LOANS, 2 TEXTS, a TAPE of 9 bytes; SHEETS 0 of 4 ints, 1 of
     * 3 shorts, 2 missing, 3 of 21 bytes.
     */
    static CoalIsLent some() {
        CoalIsLent x = Checks.withHuts(14, 25010, 5, 6005);
        Checks.textOf(x, TEXT_1);
        x.lend(1, 1009);
        x.put(1, 2, 4);
        x.image();
        x.force(1);
        x.hut(33, 18003);
        x.lend(20, 2005);
        x.lend(2, 307);
        x.night();
        x.put(1, 2, 2);
        Checks.fill(x, 0, INTS, 12, 34, 45, 50);
        Checks.fill(x, 1, SHORTS, 7, 8, 9);
        x.sheet(3, BYTES, 21);
        for (int i = 0; i < 21; i++) x.cell(3, i, i);
        Checks.feedAll(x, "grows 1;c");
        return x;
    }

    /** 6 HUTS, 10 LOANS, 6 TEXTS, a TAPE of 160 bytes, SHEETS of 40; the IMAGE holds one HUT. */
    static CoalIsLent full() {
        CoalIsLent x = fullOfTexts();
        Checks.feedAll(x, "x".repeat(160));
        return x;
    }

    /** As full(), but with an empty TAPE. */
    static CoalIsLent fullOfTexts() {
        CoalIsLent x = Checks.withHuts(1, 50003);
        x.image();
        for (int h = 1; h < 6; h++) x.hut(11 * h - 1, 30000 + h);
        for (int k = 0; k < 10; k++) x.lend(10 * (k % 6) + (k + 1) % 6, 505 + 101 * k);
        for (int t = 1; t < 6; t++) Checks.textOf(x, "grows " + t + ";cools more;burns night;");
        for (int s = 0; s < 4; s++) {
            x.sheet(s, Math.min(s, 2), 40);
            for (int i = 0; i < 10; i++) x.cell(s, i, i + s);
        }
        Checks.due("it is full", x.count(0) + x.count(1) + x.count(4), 6 + 10 + 6);
        return x;
    }

    /** HUTS under a law by which nothing grows, cools or burns. */
    static CoalIsLent calm(int... pairs) {
        return Checks.underLaw(Checks.withHuts(pairs), "0", "0", "0");
    }
}
