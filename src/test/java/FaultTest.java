/** Promise 4 and TEXT: the places of FAULTS, at each edge that the document names. */
final class FaultTest {
    private static final String STANDS = "grows 1;cools 1;burns 1;";
    private static final String SIGNS = "();+-*<=";

    private FaultTest() {
    }

    public static void main(String[] args) {
        bytesThatBeginNone();
        bytesBesideRanges();
        wordsThatAreNone();
        wordsWhereTheyCannotStand();
        numbersTooLong();
        endsTooEarly();
        tooMuch();
        fiveOpenAndSix();
        openTillTheyEnd();
        openBeyondTheirEnd();
        theFirstIsTold();
        keysInTheirOrder();
        leftoversOfAnEarlierTape();
        leftoversOfAnEarlierText();
        Checks.finish();
    }

    private static void answer(String bytes, int due) {
        CoalIsLent x = new CoalIsLent();
        Checks.feedAll(x, bytes);
        Checks.due("text() of " + bytes, x.text(), due);
        Checks.due("THE TAPE is empty then", x.count(6), 0);
        Checks.due("TEXTS", x.count(4), due < 0 ? 1 : 2);
    }

    private static void faultAt(int place, String bytes) {
        answer(bytes, -100 - place);
    }

    private static void stands(String bytes) {
        answer(bytes, 1);
    }

    /** An E in each of the three places. */
    private static void standsAsE(String e) {
        stands("grows " + e + ";cools 1;burns 1;");
        stands("grows 1;cools " + e + ";burns 1;");
        stands("grows 1;cools 1;burns " + e + ";");
    }

    private static void faultOfE(int place, String e) {
        faultAt(6 + place, "grows " + e + ";cools 1;burns 1;");
        faultAt(14 + place, "grows 1;cools " + e + ";burns 1;");
        faultAt(22 + place, "grows 1;cools 1;burns " + e + ";");
    }

    private static boolean isDigit(int b) {
        return b >= 48 && b <= 57;
    }

    /** Each byte there is: ahead of all, where a ONE is wanted, behind a ONE, behind all. */
    private static void bytesThatBeginNone() {
        for (int b = 0; b < 256; b++) {
            String c = String.valueOf((char) b);
            boolean isBlank = b == 32 || b == 10;
            faultAt(isBlank ? 1 : 0, c);
            boolean canStart = isBlank || isDigit(b) || b == '(' || b == '-';
            faultAt(canStart ? 7 : 6, "grows " + c);
            boolean canFollow = isBlank || isDigit(b) || ";+-*<=".indexOf(b) >= 0;
            faultAt(canFollow ? 8 : 7, "grows 1" + c);
            if (isBlank) stands(STANDS + c + c);
            else faultAt(24, STANDS + c);
        }
    }

    private static void bytesBesideRanges() {
        // a and z belong to WORDS, what is beside them does not
        faultAt(6, "grows heata;");
        faultAt(6, "grows heatz;");
        faultAt(10, "grows heat`;");
        faultAt(10, "grows heat{;");
        faultAt(10, "grows heatA;");
        faultAt(10, "grows heat_;");
        faultAt(6, "grows aheat;");
        faultAt(6, "grows zheat;");
        // 0 and 9 belong to NUMBERS, what is beside them does not
        faultAt(6, "grows 00000;");
        faultAt(6, "grows 99999;");
        faultAt(10, "grows 1234/;");
        faultAt(10, "grows 1234:;");
        faultAt(10, "grows 1234.5;");
        // 32 and 10 are blanks, what is beside them is not
        for (int b : new int[] {9, 11, 12, 13, 31, 33, 0, 127, 128, 160, 255}) faultAt(5, "grows" + (char) b + "1;");
        faultAt(7, "grows \n");
    }

    private static void wordsThatAreNone() {
        for (String w : new String[] {"heat", "wood", "night", "coal", "owed", "more"}) {
            standsAsE(w);
            for (String other : new String[] {w + "s", "x" + w, w.substring(1), w.substring(0, w.length() - 1), w + w}) {
                faultOfE(0, other);
                faultOfE(4, "1 + " + other);
            }
        }
        for (String w : new String[] {"or", "and"}) {
            standsAsE("1 " + w + " 2");
            for (String other : new String[] {w + "s", "x" + w, w.substring(1), w.substring(0, w.length() - 1)}) {
                faultOfE(2, "1 " + other + " 2");
            }
        }
        for (String other : new String[] {"no", "nots", "ot", "xnot", "notheat"}) faultOfE(0, other + " 1");
        faultAt(0, "growsheat;");
        faultAt(0, "grow 1;");
        faultAt(0, "growss 1;");
        faultAt(8, "grows 1;cool 1;");
        faultAt(8, "grows 1;coolsx 1;");
        faultAt(16, "grows 1;cools 1;burn 1;");
        faultAt(16, "grows 1;cools 1;burnsburns 1;");
        faultAt(0, "gr ows 1;");
    }

    private static void wordsWhereTheyCannotStand() {
        for (String w : new String[] {"grows", "cools", "burns", "or", "and"}) {
            faultOfE(0, w);
            faultOfE(4, "1 + " + w + " 1");
            faultOfE(1, "(" + w + ")");
        }
        for (String w : new String[] {"grows", "cools", "burns", "not", "heat", "2", "("}) faultOfE(2, "1 " + w);
        for (String s : new String[] {"+", "-", "*"}) faultOfE(2 + s.length(), "1 " + s + "not 1");
        for (String s : new String[] {"<", "="}) {
            faultOfE(4, "1 " + s + " not 1");
            for (String t : new String[] {"<", "="}) {
                faultOfE(6, "1 " + s + " 2 " + t + " 3");
                faultOfE(3, "1 " + s + t + " 3");
                standsAsE("(1 " + s + " 2) " + t + " 3");
                standsAsE("1 " + s + " 2 or 2 " + t + " 3");
                standsAsE("not 1 " + s + " 2 and not 2 " + t + " 3");
            }
        }
        for (String s : new String[] {"*", "+", "<", "=", ")", ";"}) {
            faultOfE(0, s);
            faultOfE(1, "(" + s);
            faultOfE(4, "1 + " + s);
        }
        faultOfE(1, "1)");
        faultOfE(1, "()");
        faultOfE(2, "(1;)");
    }

    private static void numbersTooLong() {
        for (String n : new String[] {"0", "9", "00", "99", "000", "999", "0000", "9999"}) standsAsE(n);
        StringBuilder n = new StringBuilder("10000");
        for (int i = 5; i < 40; i++) {
            faultOfE(0, n.toString());
            faultOfE(5, "9999+" + n);
            n.append('0');
        }
        standsAsE("9999+ 9999*9999");
        faultOfE(5, "9999 9999");
        faultAt(0, "1".repeat(160));
        faultAt(6, "grows " + "2147483648".repeat(15));
    }

    /** A TEXT cut at each place: the FAULT is where it ends, or where the WORD begins that was cut. */
    private static void endsTooEarly() {
        String all = "grows not 1 + coal < 99 ;\ncools (2*wood) - - 7 and more or night = owed;burns heat ;";
        stands(all);
        int word = 0;
        for (int p = 0; p < all.length(); p++) {
            boolean isIn = p > 0 && Character.isLetter(all.charAt(p)) && Character.isLetter(all.charAt(p - 1));
            if (!isIn) word = p;
            faultAt(word, all.substring(0, p));
            if (!isIn) faultAt(p + 2, all.substring(0, p) + " \n");
        }
    }

    private static void tooMuch() {
        stands(STANDS + " \n ");
        for (String more : new String[] {";", "grows 1;", "1", "heat", "x", "(", "burns 1;", "\t"}) {
            faultAt(24, STANDS + more);
            faultAt(26, STANDS + " \n" + more);
        }
    }

    /** All that may open six times over, in each order: the sixth can't stand, nor can a not behind a - . */
    private static void fiveOpenAndSix() {
        for (int lots = 0; lots < 729; lots++) {
            String six = "";
            int fault = -1;
            for (int i = 0, rest = lots; i < 6; i++, rest /= 3) {
                String one = new String[] {"(", "not ", "-"}[rest % 3];
                boolean canStand = i < 5 && !(six.endsWith("-") && one.equals("not "));
                if (fault < 0 && !canStand) {
                    fault = six.length();
                    if (i == 5) standsAsE(closed(six));
                }
                six += one;
            }
            faultOfE(fault, closed(six));
        }
    }

    private static String closed(String opened) {
        return opened + "1" + ")".repeat((int) opened.chars().filter(c -> c == '(').count());
    }

    /** What is no longer open does not count. */
    private static void openTillTheyEnd() {
        standsAsE("(((((1)))))+(((((1)))))");
        standsAsE("((((1)+(1))))*(((((2)))))");
        standsAsE("-----1-----1*-----1");
        standsAsE("-----1+-----1<-----1");
        standsAsE("1------1");
        standsAsE("not not not not not 1 and not not not not not 1");
        standsAsE("not not not not not 1 or not not not not not 1");
        standsAsE("(((( - 1 + - 1 * - 1 < - 1 ))))");
        standsAsE("((((not 1 and not 1 or not 1))))");
        standsAsE("not not not not 1 + (1) - (2) * -3");
        standsAsE("not not not not (1) = (2)");
        standsAsE("not not not not not 1 and (1)");
        standsAsE("not not not not not 1 or - 1");
        standsAsE("- - - - - 1 + (((((1)))))");
        standsAsE("- - - - (1) + (((((1)))))");
    }

    private static void openBeyondTheirEnd() {
        faultOfE(5, "((((((1))))))");
        faultOfE(7, "1-------1");
        faultOfE(5, "------1");
        faultOfE(20, "not not not not not (1)");
        // a not is open till its NOT ends: behind +, * and = of it, too
        faultOfE(24, "not not not not not 1 + (1)");
        faultOfE(24, "not not not not not 1 * - 1");
        faultOfE(24, "not not not not not 1 = (1)");
        faultOfE(24, "not not not not not 1 < - 1");
        // a ( is open till its )
        faultOfE(9, "((((( 1 +(1)))))");
        faultOfE(12, "((((( 1 and (1)))))");
        faultOfE(11, "((((( 1 or not 1)))))");
        faultOfE(11, "(((((1)))))))");
        // a - is open till its ONE ends, which may be a (
        standsAsE("((((-1 + (1)))))");
        faultOfE(11, "((((-1 + - -1))))");
        standsAsE("((-(-1 + (1))))");
        faultOfE(5, "((-(-(1))))");
    }

    private static void theFirstIsTold() {
        faultAt(0, "$ % 12345");
        faultAt(6, "grows 12345 $ )");
        faultAt(8, "grows 1 ) 12345");
        faultAt(8, "grows 1 x $");
        faultAt(6, "grows ;cools ;");
        faultAt(14, "grows 1;cools ;burns");
        faultAt(22, "grows 1;cools 1;burns ;x");
        faultAt(11, "grows (((((((((((((((1;$");
    }

    private static void keysInTheirOrder() {
        stands(STANDS);
        faultAt(0, "cools 1;burns 1;grows 1;");
        faultAt(0, "burns 1;");
        faultAt(8, "grows 1;grows 1;");
        faultAt(8, "grows 1;burns 1;");
        faultAt(16, "grows 1;cools 1;cools 1;");
        faultAt(16, "grows 1;cools 1;grows 1;");
        faultAt(24, STANDS + "burns 1;");
        faultAt(0, ";" + STANDS);
        faultAt(6, "grows grows 1;");
        faultAt(8, "grows 1 cools 1;");
    }

    /** A shorter TAPE behind a longer one ends where its own bytes do. */
    private static void leftoversOfAnEarlierTape() {
        String[][] all = {{"grows 1;cools 1;burns heats;", "grows 1;cools 1;burns heat", "-126"},
            {"growsx", "grows", "-105"}, {"grows 12345", "grows 1234", "-110"}, {"x".repeat(160), "", "-100"},
            {STANDS, STANDS.substring(0, 23), "-123"}, {STANDS + "x", STANDS, "1"}, {STANDS + "     x", STANDS + " ", "1"},
            {"1".repeat(160), "grows 1;cools 1;burns 1;", "1"}, {"grows 1;cools 1;burns 1;", "  ", "-102"}};
        for (String[] a : all) {
            CoalIsLent x = new CoalIsLent();
            Checks.textOf(x, a[0]);
            Checks.due(a[1] + " behind " + a[0], Math.min(Checks.textOf(x, a[1]), 1), Integer.parseInt(a[2]));
        }
    }

    /** What a longer TEXT came to is nothing to a shorter one behind it, nor to one behind a FAULT. */
    private static void leftoversOfAnEarlierText() {
        for (String longer : new String[] {"grows 1;cools 1;burns -1;", "grows 1;cools 1;burns not 1;",
            "grows 1;cools 1;burns - - 1 $", "grows 1;cools 1;burns 1 + 1;", "grows - - - - - 1;cools 1 + 1;burns 1 + 1;"}) {
            CoalIsLent x = Checks.withHuts(0, 0);
            Checks.textOf(x, longer);
            Checks.underLaw(x, "7", "6", "5");
            for (int part = 0; part < 3; part++) Checks.due("behind " + longer, x.asks(part, 0, 0), 7 - part);
            Checks.textOf(x, "grows 1 + 2;cools - 1 + 3 ) ;");
            for (int part = 0; part < 3; part++) Checks.due("behind a FAULT", x.asks(part, 0, 0), 7 - part);
        }
    }
}
