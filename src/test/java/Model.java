import java.util.ArrayDeque;
import java.util.ArrayList;
import java.util.Arrays;
import java.util.Deque;
import java.util.List;

/**
 * The document once more, written another way and without regard to cost: objects for HUTS and LOANS, a new
 * world for each thought, a TEXT kept as its TOKENS and checked by a machine of states. ModelTest holds the class
 * against it.
 */
final class Model {
    static final long NO = -4611686018427387904L;

    static final class Hut {
        int kind, more, heat, wood, cold;

        Hut copyOf() {
            Hut h = new Hut();
            h.kind = kind;
            h.more = more;
            h.heat = heat;
            h.wood = wood;
            h.cold = cold;
            return h;
        }
    }

    static final class Loan {
        Hut from, to;
        int coal, due;
    }

    static final class Token {
        String word;
        int place;

        Token(String word, int place) {
            this.word = word;
            this.place = place;
        }
    }

    static final class World {
        List<Hut> huts = new ArrayList<>();
        List<Loan> loans = new ArrayList<>();
        int night, law;

        World copyOf() {
            World w = new World();
            for (Hut h : huts) w.huts.add(h.copyOf());
            for (Loan l : loans) {
                Loan m = new Loan();
                m.from = w.huts.get(huts.indexOf(l.from));
                m.to = w.huts.get(huts.indexOf(l.to));
                m.coal = l.coal;
                m.due = l.due;
                w.loans.add(m);
            }
            w.night = night;
            w.law = law;
            return w;
        }
    }

    World now = new World();
    World kept = null;
    String tape = "";
    List<List<Token>> texts = new ArrayList<>();
    int[][] sheets = new int[4][];
    int[] sorts = {-1, -1, -1, -1};

    Model() {
        texts.add(tokens("grows 1 + coal < 99 ; cools 2 ; burns 10 ;"));
    }

    // ---- texts

    /** The TOKENS; the last one is "" at the end, or "?" where a byte, a WORD or a NUMBER can't be one. */
    static List<Token> tokens(String s) {
        List<Token> all = new ArrayList<>();
        int i = 0;
        while (true) {
            while (i < s.length() && (s.charAt(i) == 32 || s.charAt(i) == 10)) i++;
            if (i == s.length()) {
                all.add(new Token("", i));
                return all;
            }
            int j = i;
            char c = s.charAt(i);
            if (c >= 'a' && c <= 'z') {
                while (j < s.length() && s.charAt(j) >= 'a' && s.charAt(j) <= 'z') j++;
            } else if (c >= '0' && c <= '9') {
                while (j < s.length() && s.charAt(j) >= '0' && s.charAt(j) <= '9') j++;
            } else {
                j++;
            }
            String word = s.substring(i, j);
            boolean fine = "grows cools burns or and not heat wood night coal owed more ( ) ; + - * < ="
                    .contains(word) && Arrays.asList(("grows cools burns or and not heat wood night coal owed more"
                    + " ( ) ; + - * < =").split(" ")).contains(word);
            if (Character.isDigit(c) && c < 128) fine = word.length() <= 4;
            all.add(new Token(fine ? word : "?", i));
            if (!fine) return all;
            i = j;
        }
    }

    static boolean isValue(String w) {
        return w.length() > 0 && (Character.isDigit(w.charAt(0))
                || Arrays.asList("heat", "wood", "night", "coal", "owed", "more").contains(w));
    }

    /** The place of the FAULT, or -1: by what may stand next, with the open ones on a stack. */
    static int faultOf(List<Token> all) {
        String[] keys = {"grows", "cools", "burns"};
        int part = 0;
        boolean inside = false;      // behind a KEY, ahead of its ;
        boolean wanted = false;      // a ONE is to come
        boolean notMay = false;      // a not may stand here
        boolean compared = false;    // this NOT has its < or = already
        Deque<Character> open = new ArrayDeque<>();
        Deque<Boolean> comparedOutside = new ArrayDeque<>();
        for (Token t : all) {
            String w = t.word;
            if (!inside) {
                if (part == 3) {
                    if (w.isEmpty()) return -1;
                    return t.place;
                }
                if (!w.equals(keys[part])) return t.place;
                inside = true;
                wanted = true;
                notMay = true;
                compared = false;
                continue;
            }
            if (wanted) {
                if (isValue(w)) {
                    wanted = false;
                    while (!open.isEmpty() && open.peek() == '-') open.pop();
                } else if (w.equals("(") || w.equals("-") || w.equals("not") && notMay) {
                    if (open.size() == 5) return t.place;
                    open.push(w.charAt(0));
                    if (w.equals("(")) {
                        comparedOutside.push(compared);
                        compared = false;
                        notMay = true;
                    } else if (w.equals("-")) {
                        notMay = false;
                    }
                } else {
                    return t.place;
                }
                continue;
            }
            if (w.equals("+") || w.equals("-") || w.equals("*")) {
                wanted = true;
                notMay = false;
            } else if ((w.equals("<") || w.equals("=")) && !compared) {
                wanted = true;
                notMay = false;
                compared = true;
            } else if (w.equals("and") || w.equals("or")) {
                while (!open.isEmpty() && open.peek() == 'n') open.pop();
                wanted = true;
                notMay = true;
                compared = false;
            } else if (w.equals(")")) {
                while (!open.isEmpty() && open.peek() == 'n') open.pop();
                if (open.isEmpty()) return t.place;
                open.pop();
                compared = comparedOutside.pop();
                while (!open.isEmpty() && open.peek() == '-') open.pop();
            } else if (w.equals(";")) {
                while (!open.isEmpty() && open.peek() == 'n') open.pop();
                if (!open.isEmpty()) return t.place;
                inside = false;
                part++;
            } else {
                return t.place;
            }
        }
        throw new IllegalStateException("a TEXT without an end");
    }

    /** Values by climbing the strengths of what stands between: or, and, not, < =, + -, *. */
    private final class Climber {
        List<Token> all;
        int at;
        int[] names;

        int strength(String w) {
            switch (w) {
                case "or": return 1;
                case "and": return 2;
                case "<":
                case "=": return 4;
                case "+":
                case "-": return 5;
                case "*": return 6;
                default: return 0;
            }
        }

        int value(int least) {
            String w = all.get(at++).word;
            int left;
            if (w.equals("not")) {
                left = value(4) == 0 ? 1 : 0;
                // what a not belongs to is weaker than < and =
            } else if (w.equals("-")) {
                left = -value(7);
            } else if (w.equals("(")) {
                left = value(1);
                at++;
            } else if (Character.isDigit(w.charAt(0))) {
                left = Integer.parseInt(w);
            } else {
                left = names[Arrays.asList("heat", "wood", "night", "coal", "owed", "more").indexOf(w)];
            }
            while (strength(all.get(at).word) >= least && strength(all.get(at).word) > 0) {
                String op = all.get(at++).word;
                int right = value(strength(op) + 1);
                switch (op) {
                    case "or": left = left != 0 | right != 0 ? 1 : 0; break;
                    case "and": left = left != 0 & right != 0 ? 1 : 0; break;
                    case "<": left = left < right ? 1 : 0; break;
                    case "=": left = left == right ? 1 : 0; break;
                    case "+": left += right; break;
                    case "-": left -= right; break;
                    default: left *= right; break;
                }
            }
            return left;
        }
    }

    int says(World w, int part, Hut h, int coal) {
        Climber c = new Climber();
        c.all = texts.get(w.law);
        String key = new String[] {"grows", "cools", "burns"}[part];
        while (!c.all.get(c.at).word.equals(key)) c.at++;
        c.at++;
        c.names = new int[] {h.heat, h.wood, w.night, coal, owes(w, h), h.more};
        int v = c.value(1);
        return v < 0 ? 0 : v > 99 ? 99 : v;
    }

    // ---- kinds

    int grows(World w, Hut h, int coal) {
        int said = says(w, 0, h, coal);
        if (h.kind == 5) return 0;
        if (h.kind == 4) return said + said + 1;
        if ((h.kind == 1 || h.kind == 3) && coal > 50) return said + h.more;
        return said;
    }

    int cools(World w, Hut h) {
        int said = says(w, 1, h, 0);
        if (h.kind == 3 && h.heat > 200) return h.heat;
        if (h.kind == 1 || h.kind == 3) return said / 2;
        if (h.kind == 2 || h.kind == 4) return said + h.heat / 20;
        return said;
    }

    int burns(World w, Hut h) {
        int said = says(w, 2, h, 0);
        if (h.kind == 4 && w.night < h.more) return 0;
        if (h.kind == 4 || h.kind == 2) return 2 * said;
        if (h.kind == 3) return said + h.more;
        if (h.kind == 5) return w.night % 2 == 1 ? 30 : 0;
        return said;
    }

    // ---- nights

    static int owes(World w, Hut h) {
        int sum = 0;
        for (Loan l : w.loans) if (l.to == h) sum += l.coal;
        return sum;
    }

    static int owed(World w, Hut h) {
        int sum = 0;
        for (Loan l : w.loans) if (l.from == h) sum += l.coal;
        return sum;
    }

    int pass(World w) {
        for (Loan l : w.loans) l.coal = Math.min(9999, l.coal + grows(w, l.to, l.coal));
        int failed = 0;
        for (Loan l : new ArrayList<>(w.loans)) {
            if (l.due > w.night) continue;
            if (l.to.heat >= l.coal) {
                l.to.heat -= l.coal;
                l.from.heat = Math.min(9999, l.from.heat + l.coal);
            } else {
                l.to.cold = 20;
                failed |= 1 << w.huts.indexOf(l.to);
            }
            w.loans.remove(l);
        }
        for (Hut h : w.huts) {
            if (h.cold > 0) {
                h.cold--;
                h.heat = 0;
                continue;
            }
            if (h.wood > 0) {
                int more = burns(w, h);
                h.heat = Math.min(9999, h.heat + more);
                h.wood--;
            }
            h.heat = Math.max(0, h.heat - cools(w, h));
        }
        w.night++;
        return failed;
    }

    int passMany(World w, int n) {
        int failed = 0;
        for (int i = 0; i < n; i++) failed |= pass(w);
        return failed;
    }

    static int heatOfAll(World w) {
        int sum = 0;
        for (Hut h : w.huts) sum += h.heat;
        return sum;
    }

    int snow(World w, int seed, int snow) {
        int failed = 0;
        if (w.huts.isEmpty()) return 0;
        long lot = (seed + 1L) * 48271 % 2147483647;
        for (int i = 0; i < 5; i++) {
            Hut h = w.huts.get((int) (lot % w.huts.size()));
            h.heat = Math.max(0, h.heat - snow);
            failed |= pass(w);
            lot = lot * 48271 % 2147483647;
        }
        return failed;
    }

    // ---- the calls

    boolean isHut(int h) {
        return h >= 0 && h < now.huts.size();
    }

    int count(int what) {
        int[] all = {now.huts.size(), now.loans.size(), now.night, heatOfAll(now), texts.size(), now.law,
            tape.length()};
        return what < 0 || what > 6 ? -2 : all[what];
    }

    int feed(int n, int... bytes) {
        if (n < 1 || n > 5) return -2;
        for (int b : bytes) if (b < 0 || b > 255) return -2;
        if (tape.length() + n > 160) return -4;
        for (int i = 0; i < n; i++) tape += (char) bytes[i];
        return tape.length();
    }

    int text() {
        if (texts.size() == 6) return -4;
        List<Token> all = tokens(tape);
        tape = "";
        int fault = faultOf(all);
        if (fault >= 0) return -100 - fault;
        texts.add(all);
        return texts.size() - 1;
    }

    int force(int t) {
        if (t < 0 || t >= texts.size()) return -2;
        int was = now.law;
        now.law = t;
        return was;
    }

    int asks(int part, int h, int coal) {
        if (part < 0 || part > 2 || !isHut(h) || coal < 0 || coal > 9999) return -2;
        return says(now, part, now.huts.get(h), coal);
    }

    int hut(int kindMore, int heatWood) {
        if (kindMore < 0 || kindMore >= 60 || heatWood < 0 || heatWood > 999999) return -2;
        if (now.huts.size() == 6) return -4;
        Hut h = new Hut();
        h.kind = kindMore / 10;
        h.more = kindMore % 10;
        h.heat = heatWood / 100;
        h.wood = heatWood % 100;
        now.huts.add(h);
        return now.huts.size() - 1;
    }

    static void set(Hut h, int what, int v) {
        if (what == 0) h.heat = v;
        if (what == 1) h.wood = v;
        if (what == 2) h.cold = v;
    }

    int put(int h, int what, int v) {
        if (!isHut(h)) return -5;
        if (what < 0 || what > 2 || v < 0 || v > (what == 0 ? 9999 : 99)) return -7;
        int was = told(h, what);
        set(now.huts.get(h), what, v);
        return was;
    }

    int told(int h, int what) {
        if (!isHut(h)) return -5;
        if (what < 0 || what > 7) return -7;
        Hut x = now.huts.get(h);
        int from = 0;
        for (Loan l : now.loans) if (l.from == x) from++;
        return new int[] {x.heat, x.wood, x.cold, x.kind, x.more, owes(now, x), owed(now, x), from}[what];
    }

    static int lendIn(World w, int from, int to, int coalNights, int mostNights) {
        if (coalNights < 100 || coalNights > 999999 || coalNights % 100 < 1 || coalNights % 100 > mostNights) {
            return -7;
        }
        if (w.loans.size() == 10) return -4;
        Loan l = new Loan();
        l.from = w.huts.get(from);
        l.to = w.huts.get(to);
        l.coal = coalNights / 100;
        l.due = w.night + coalNights % 100;
        if (l.from.cold > 0 || l.from.heat < l.coal) return -3;
        l.from.heat -= l.coal;
        l.to.heat = Math.min(9999, l.to.heat + l.coal);
        w.loans.add(l);
        return w.loans.size() - 1;
    }

    int lend(int fromTo, int coalNights) {
        if (fromTo < 0 || !isHut(fromTo / 10) || !isHut(fromTo % 10) || fromTo / 10 == fromTo % 10) return -5;
        return lendIn(now, fromTo / 10, fromTo % 10, coalNights, 99);
    }

    int loan(int k, int what) {
        if (k < 0 || k >= now.loans.size()) return -5;
        if (what < 0 || what > 3) return -7;
        Loan l = now.loans.get(k);
        return new int[] {now.huts.indexOf(l.from), now.huts.indexOf(l.to), l.coal, l.due}[what];
    }

    int repay(int k) {
        if (k < 0 || k >= now.loans.size()) return -5;
        Loan l = now.loans.get(k);
        if (l.to.heat < l.coal) return -3;
        l.to.heat -= l.coal;
        l.from.heat = Math.min(9999, l.from.heat + l.coal);
        now.loans.remove(k);
        return l.coal;
    }

    int forgive(int k) {
        return k < 0 || k >= now.loans.size() ? -5 : now.loans.remove(k).coal;
    }

    int night() {
        return now.night == 999 ? -3 : pass(now);
    }

    int run(int n, int what) {
        if (n < 0 || n > 40 || what < 0 || what > 2 && what < 10 || what >= 10 + now.huts.size()
                && what > 2) {
            return -2;
        }
        World w = now.copyOf();
        int failed = passMany(w, n);
        if (what == 0) return heatOfAll(w);
        if (what == 1) return failed;
        return what == 2 ? w.loans.size() : w.huts.get(what - 10).heat;
    }

    int lasts(int h, int what) {
        if (!isHut(h)) return -5;
        if (what < 0 || what > 1) return -7;
        for (int n = what == 0 ? 1 : 0; n <= 40; n++) {
            World w = now.copyOf();
            if (what == 1) {
                passMany(w, n);
                if (w.huts.get(h).heat == 0) return n;
            } else {
                passMany(w, n - 1);
                if ((pass(w) >> h) % 2 == 1) return n;
            }
        }
        return -1;
    }

    int net(int h) {
        return isHut(h) ? owed(now, now.huts.get(h)) - owes(now, now.huts.get(h)) : -1000000;
    }

    int settle(int what) {
        if (what < 0 || what > 1) return -2;
        int[] nets = new int[now.huts.size()];
        for (int h = 0; h < nets.length; h++) nets[h] = net(h);
        int many = 0, together = 0;
        while (Arrays.stream(nets).anyMatch(v -> v < 0)) {
            int least = Arrays.stream(nets).min().getAsInt();
            int most = Arrays.stream(nets).max().getAsInt();
            int a = 0, b = 0;
            while (nets[a] != least) a++;
            while (nets[b] != most) b++;
            int paid = Math.min(-least, most);
            nets[a] += paid;
            nets[b] -= paid;
            many++;
            together += paid;
        }
        return what == 0 ? many : together;
    }

    int source(int h) {
        if (!isHut(h)) return -5;
        int bits = 0;
        List<Hut> todo = new ArrayList<>(List.of(now.huts.get(h)));
        while (!todo.isEmpty()) {
            Hut x = todo.remove(0);
            for (Loan l : now.loans) {
                int bit = 1 << now.huts.indexOf(l.from);
                if (l.to == x && (bits & bit) == 0) {
                    bits |= bit;
                    todo.add(l.from);
                }
            }
        }
        return bits;
    }

    int rings(int what) {
        if (what < 0 || what > 1) return -2;
        int bits = 0;
        for (int h = 0; h < now.huts.size(); h++) {
            if (what == 0 && (source(h) & 1 << h) != 0) bits |= 1 << h;
            if (what == 1 && source(h) == 0 && told(h, 7) > 0) bits |= 1 << h;
        }
        return bits;
    }

    int ask(int h, int coalNights, int what) {
        if (!isHut(h)) return -5;
        if (coalNights < 100 || coalNights > 999999 || coalNights % 100 < 1 || coalNights % 100 > 39) return -7;
        if (what < 0 || what > 1) return -7;
        int best = -1, most = -1;
        for (int g = 0; g < now.huts.size(); g++) {
            World w = now.copyOf();
            if (g == h || lendIn(w, g, h, coalNights, 99) < 0) continue;
            passMany(w, coalNights % 100 + 1);
            if (best == -1 || heatOfAll(w) > most) {
                best = g;
                most = heatOfAll(w);
            }
        }
        return what == 0 ? best : most;
    }

    int needs(int h, int n) {
        if (!isHut(h)) return -5;
        if (n < 0 || n > 40) return -7;
        for (int wood = 0; wood < 100; wood++) {
            World w = now.copyOf();
            w.huts.get(h).wood = wood;
            if ((passMany(w, n) & 1 << h) == 0) return wood;
        }
        return -1;
    }

    int mercy(int n, int what) {
        if (n < 0 || n > 40 || what < 0 || what > 1) return -2;
        int best = -1;
        int fewest = Integer.bitCount(passMany(now.copyOf(), n));
        for (int k = 0; k < now.loans.size(); k++) {
            World w = now.copyOf();
            w.loans.remove(k);
            int many = Integer.bitCount(passMany(w, n));
            if (many < fewest) {
                best = k;
                fewest = many;
            }
        }
        return what == 0 ? best : fewest;
    }

    int worst(int n, int what) {
        if (n < 0 || n > 40 || what < 0 || what > 1) return -2;
        int worst = -1, least = -1;
        for (int h = 0; h < now.huts.size(); h++) {
            World w = now.copyOf();
            w.huts.get(h).heat = 0;
            w.huts.get(h).wood = 0;
            passMany(w, n);
            int heat = heatOfAll(w) - w.huts.get(h).heat;
            if (worst == -1 || heat < least) {
                worst = h;
                least = heat;
            }
        }
        return what == 0 ? worst : least;
    }

    int refusal(int s, int h, boolean hutToo) {
        if (s < 0 || s > 3) return -2;
        if (sheets[s] == null) return -11;
        if (sheets[s].length > 20) return -2;
        return hutToo && !isHut(h) ? -5 : 0;
    }

    int other(int s, World w, int h) {
        int first = -1;
        for (int i = 0; i < sheets[s].length; i++) {
            pass(w);
            if (first == -1 && w.huts.get(h).heat != sheets[s][i]) first = i;
        }
        return first;
    }

    int judge(int s, int h) {
        int r = refusal(s, h, true);
        return r != 0 ? r : other(s, now.copyOf(), h);
    }

    int kinds(int s, int h, int sort) {
        int r = refusal(s, h, true);
        if (r != 0) return r;
        if (sort < 0 || sort > 1) return -7;
        int bits = 0;
        for (int v = 0; v < (sort == 0 ? 6 : 10); v++) {
            World w = now.copyOf();
            if (sort == 0) w.huts.get(h).kind = v;
            else w.huts.get(h).more = v;
            if (other(s, w, h) == -1) bits += 1 << v;
        }
        return bits;
    }

    int states(int s, int h, int sort, int what) {
        int r = refusal(s, h, true);
        if (r != 0) return r;
        if (sort < 0 || sort > 2 || what < 0 || what > 1) return -7;
        List<Integer> all = new ArrayList<>();
        for (int v = 0; v < (sort == 0 ? 300 : 100); v++) {
            World w = now.copyOf();
            set(w.huts.get(h), sort, v);
            if (other(s, w, h) == -1) all.add(v);
        }
        if (what == 0) return all.size();
        return all.isEmpty() ? -1 : all.get(0);
    }

    int whose(int s) {
        int r = refusal(s, 0, false);
        if (r != 0) return r;
        int bits = 0;
        for (int h = 0; h < now.huts.size(); h++) if (other(s, now.copyOf(), h) == -1) bits += 1 << h;
        return bits;
    }

    int laws(int s, int h) {
        int r = refusal(s, h, true);
        if (r != 0) return r;
        int bits = 0;
        for (int t = 0; t < texts.size(); t++) {
            World w = now.copyOf();
            w.law = t;
            if (other(s, w, h) == -1) bits += 1 << t;
        }
        return bits;
    }

    int film(int s, int h, int n) {
        if (s < 0 || s > 3) return -2;
        if (!isHut(h)) return -5;
        if (n < 0 || n > 20) return -7;
        sorts[s] = 1;
        sheets[s] = new int[n];
        for (int i = 0; i < n; i++) sheets[s][i] = run(i + 1, 10 + h);
        return n;
    }

    int drawn(int seed, int snow, int what) {
        if (seed < 0 || seed > 99999 || snow < 0 || snow > 999 || what < 0 || what > 1) return -2;
        World w = now.copyOf();
        int failed = snow(w, seed, snow);
        return what == 0 ? failed : heatOfAll(w);
    }

    long odds(int seed, int seeds, int snow, int many, int part) {
        if (seed < 0 || seed > 99999 || seeds < 1 || seeds > 40 || snow < 0 || snow > 999 || many < 0 || many > 6
                || part < 0 || part > 1) {
            return NO;
        }
        int above = 0;
        for (int i = 0; i < seeds; i++) {
            if (Integer.bitCount(snow(now.copyOf(), seed + i, snow)) >= many) above++;
        }
        int a = above, b = seeds;
        while (b != 0) {
            int rest = a % b;
            a = b;
            b = rest;
        }
        return part == 0 ? above / a : seeds / a;
    }

    int image() {
        kept = now.copyOf();
        return now.huts.size();
    }

    int back() {
        if (kept == null) return -3;
        now = kept.copyOf();
        return now.huts.size();
    }

    int sheet(int s, int sort, int n) {
        if (s < 0 || s > 3 || sort < -1 || sort > 2) return -2;
        if (sort >= 0 && n > 40) return -2;
        if (sort >= 0 && n < 0) return -14;
        sorts[s] = sort;
        sheets[s] = sort < 0 ? null : new int[n];
        return 1;
    }

    int cell(int s, int i, int v) {
        if (s < 0 || s > 3) return -2;
        if (sheets[s] == null) return -11;
        if (i < 0 || i >= sheets[s].length) return -12;
        sheets[s][i] = sorts[s] == 0 ? v << 24 >> 24 : sorts[s] == 1 ? v << 16 >> 16 : v;
        return 1;
    }

    int copy(int s, int i, int other, int j, int n) {
        if (s < 0 || s > 3 || other < 0 || other > 3) return -2;
        if (sheets[s] == null || sheets[other] == null) return -11;
        if (sorts[s] != sorts[other]) return -13;
        if (i < 0 || j < 0 || n < 0 || (long) i + n > sheets[s].length || (long) j + n > sheets[other].length) {
            return -12;
        }
        int[] were = sheets[s].clone();
        for (int k = 0; k < n; k++) sheets[other][j + k] = were[i + k];
        return n;
    }

    int hutsBy(int s, int sort, int from1, int n) {
        if (s < 0 || s > 3 || sort < 0 || sort > 2 || n < 0 || n > 6) return -2;
        if (sheets[s] == null) return -11;
        if (sorts[s] != sort) return -13;
        int came = 0;
        for (int k = 0; k < n; k++) {
            long place = from1 + 2L * k;
            if (place < 0 || place + 1 >= sheets[s].length) return -12;
            if (hut(sheets[s][(int) place], sheets[s][(int) place + 1]) >= 0) came++;
        }
        return came;
    }

    int taken(int i, int kind) {
        if (kind < 0 || kind > 6) return -2;
        if (i < 0 || i > 11) return -12;
        if (!isHut(i % 6)) return -11;
        if ((i > 5) != (kind == 6)) return -13;
        if (kind == 6) return now.huts.get(i - 6).heat;
        int own = now.huts.get(i).kind;
        int[][] allOf = {{0}, {0, 1}, {0, 2}, {0, 1, 3}, {0, 2, 4}, {0, 5}};
        for (int k : allOf[own]) if (k == kind) return i;
        return -13;
    }
}
