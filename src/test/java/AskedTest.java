/**
 * "What is asked changes nothing, but where it is told": every call that only asks, by each of its parts, changes
 * nothing, whether there is some of everything, as much as can be, or nothing; what changes, changes just what is told.
 */
final class AskedTest {
    private AskedTest() {
    }

    public static void main(String[] args) {
        Whole.Start[] starts = {Worlds::some, Worlds::full, Worlds::fullOfTexts, CoalIsLent::new};
        for (Whole.Start start : starts) {
            huts(start);
            debts(start);
            nights(start);
            best(start);
            toldNights(start);
            snow(start);
        }
        changesJustThat();
        sheetsAlone();
        Checks.finish();
    }

    private static void asks(String what, Whole.Start start, Whole.Call call) {
        Whole.changesNothing(what, start, call.on(start.made()), call);
    }

    private static void huts(Whole.Start start) {
        for (int i = 0; i < 8; i++) {
            int what = i;
            asks("count", start, x -> x.count(what));
            asks("told", start, x -> x.told(what % 6, what));
            asks("loan", start, x -> x.loan(what, what % 4));
            asks("asks", start, x -> x.asks(what % 3, what % 6, 9999));
            asks("taken", start, x -> x.taken(what, what % 7));
        }
    }

    private static void debts(Whole.Start start) {
        for (int i = 0; i < 6; i++) {
            int h = i;
            asks("net", start, x -> x.net(h));
            asks("settle", start, x -> x.settle(h % 2));
            asks("source", start, x -> x.source(h));
            asks("rings", start, x -> x.rings(h % 2));
        }
    }

    private static void nights(Whole.Start start) {
        for (int what : new int[] {0, 1, 2, 10, 11, 12}) {
            for (int n : new int[] {0, 1, 40}) asks("run", start, x -> x.run(n, what));
            asks("lasts", start, x -> x.lasts(what % 10, what % 2));
        }
    }

    private static void best(Whole.Start start) {
        for (int what = 0; what < 2; what++) {
            int w = what;
            for (int h = 0; h < 6; h++) {
                int one = h;
                asks("ask", start, x -> x.ask(one, 139, w));
                asks("needs", start, x -> x.needs(one, 40 - w));
            }
            for (int n : new int[] {0, 9, 40}) {
                asks("mercy", start, x -> x.mercy(n, w));
                asks("worst", start, x -> x.worst(n, w));
            }
        }
    }

    private static void toldNights(Whole.Start start) {
        for (int s = 0; s < 4; s++) {
            int one = s;
            for (int h = 0; h < 6; h++) {
                int of = h;
                asks("judge", start, x -> x.judge(one, of));
                asks("laws", start, x -> x.laws(one, of));
                for (int sort = 0; sort < 3; sort++) {
                    int by = sort;
                    asks("kinds", start, x -> x.kinds(one, of, by));
                    asks("states", start, x -> x.states(one, of, by, of % 2));
                }
            }
            asks("whose", start, x -> x.whose(one));
        }
    }

    private static void snow(Whole.Start start) {
        for (int what = 0; what < 2; what++) {
            int w = what;
            asks("drawn", start, x -> x.drawn(99999, 999, w));
            asks("odds", start, x -> x.odds(99999, 40, 999, 1, w));
        }
    }

    /** What changes something, changes that alone: done twice over, or undone, all is as it was. */
    private static void changesJustThat() {
        Whole.Start some = Worlds::some;
        Whole.changesNothing("put() of what it is", some, 2, x -> x.put(1, 2, 2));
        Whole.changesNothing("put() and back", some, 77, x -> {
            x.put(1, 1, 77);
            return x.put(1, 1, 5);
        });
        Whole.changesNothing("force() of THE LAW", some, 1, x -> x.force(1));
        Whole.changesNothing("force() and back", some, 0, x -> {
            x.force(0);
            return x.force(1);
        });
        Whole.changesAs("image() again", some, 3, x -> {
            x.image();
            x.hut(0, 0);
            x.night();
            x.forgive(1);
            return x.back();
        }, x -> x.image());
        Whole.changesAs("forgive() of what came", some, 5, x -> {
            int heat = x.told(2, 0);
            int other = x.told(0, 0);
            x.lend(20, 501);
            x.put(2, 0, heat);
            x.put(0, 0, other);
            return x.forgive(3);
        }, x -> 0);
        Whole.changesNothing("repay() of what came", some, 5, x -> {
            x.lend(20, 501);
            return x.repay(3);
        });
    }

    /** What SHEETS are told is theirs alone, and one SHEET's alone. */
    private static void sheetsAlone() {
        Whole.Start some = Worlds::some;
        Whole.changesNothing("cell() of what it is", some, 1, x -> x.cell(0, 1, 34));
        Whole.changesNothing("copy() onto itself", some, 4, x -> x.copy(0, 0, 0, 0, 4));
        Whole.changesNothing("copy() of none", some, 0, x -> x.copy(0, 4, 0, 0, 0));
        Whole.changesNothing("a missing one is missing", some, 1, x -> x.sheet(2, -1, 9));
        Whole.changesNothing("a SHEET came and went", some, 1, x -> {
            x.sheet(2, 2, 40);
            for (int i = 0; i < 40; i++) x.cell(2, i, 59);
            return x.sheet(2, -1, 0);
        });
        Whole.changesAs("film() is a SHEET of shorts", some, 3, x -> x.film(0, 2, 3), x -> {
            x.sheet(0, 1, 3);
            for (int i = 0; i < 3; i++) x.cell(0, i, x.run(i + 1, 12));
            return 0;
        });
        Whole.changesAs("sheet() anew", some, 1, x -> x.sheet(0, 0, 4), x -> {
            x.sheet(0, 0, 40);
            for (int i = 0; i < 40; i++) x.cell(0, i, 9);
            return x.sheet(0, 0, 4);
        });
        Whole.changesAs("a SHEET is longer, and behind its end all 0", some, 1, x -> x.sheet(3, 0, 40), x -> {
            x.sheet(3, -1, 0);
            return x.sheet(3, 0, 40);
        });
    }
}
