/** Huts lend one another coals, each to be repaid on a night with a hotter one. */
public final class CoalIsLent {
    public static final int NONE = -1, BAD = -2, STATE = -3, FULL = -4;
    public static final long NO = -4611686018427387904L;

    private static final int NO_SUCH = -5, NOT_AS_TOLD = -7;
    private static final int NOTHING_THERE = -11, OUTSIDE = -12, UNLIKE = -13, BELOW_ZERO = -14;
    private static final int NO_NET = -1000000, FAULT_BASE = -100;

    private static final int MOST_HUTS = 6, MOST_LOANS = 10, MOST_TEXTS = 6, MOST_BYTES = 160;
    private static final int MOST_HEAT = 9999, MOST_WOOD = 99, MOST_COLD = 99, MOST_SAID = 99;
    private static final int LAST_NIGHT = 999, MOST_NIGHTS = 40, MOST_TOLD = 20, COLD_BY_FAILING = 20;
    private static final int MOST_LOAN_NIGHTS = 99, MOST_ASK_NIGHTS = 39;
    private static final int MOST_SEED = 99999, MOST_SEEDS = 40, MOST_SNOW = 999, SNOW_NIGHTS = 5;
    private static final int MOST_STATE_HEAT = 299, MOST_MORE = 9, MOST_KIND_MORE = 59;
    private static final long LOT_FACTOR = 48271L, LOT_MODULUS = 2147483647L;

    private static final int GROWS = 0, COOLS = 1, BURNS = 2, PARTS = 3;
    private static final int HEAT = 0, WOOD = 1, COLD = 2;

    private static final String FIRST_LAW = "grows 1 + coal < 99 ; cools 2 ; burns 10 ;";

    private final Texts texts;
    private final Reader tape;
    private final World now;
    private final World thought;
    private final World kept;
    private final Sheets sheets;
    private final int[] nets;
    private boolean isKept;

    public CoalIsLent() {
        texts = new Texts();
        tape = new Reader();
        for (int i = 0; i < FIRST_LAW.length(); i++) {
            tape.takeByte(FIRST_LAW.charAt(i));
        }
        tape.readText();
        texts.keep(tape);
        tape.clear();
        now = new World(texts);
        thought = new World(texts);
        kept = new World(texts);
        sheets = new Sheets();
        nets = new int[MOST_HUTS];
        isKept = false;
    }

    // ---- huts, the law

    public int count(int what) {
        switch (what) {
            case 0: return now.huts;
            case 1: return now.loans;
            case 2: return now.night;
            case 3: return now.heatOfAll();
            case 4: return texts.known;
            case 5: return now.law;
            case 6: return tape.size;
            default: return BAD;
        }
    }

    public int feed(int n, int a, int b, int c, int d, int e) {
        if (!isFromTo(n, 1, 5) || !isByte(a) || !isByte(b) || !isByte(c) || !isByte(d) || !isByte(e)) {
            return BAD;
        }
        if (tape.size + n > MOST_BYTES) {
            return FULL;
        }
        tape.takeByte(a);
        if (n > 1) tape.takeByte(b);
        if (n > 2) tape.takeByte(c);
        if (n > 3) tape.takeByte(d);
        if (n > 4) tape.takeByte(e);
        return tape.size;
    }

    public int text() {
        if (texts.known >= MOST_TEXTS) {
            return FULL;
        }
        int fault = tape.readText();
        int answer = fault == NONE ? texts.keep(tape) : FAULT_BASE - fault;
        tape.clear();
        return answer;
    }

    public int force(int t) {
        if (!isFromTo(t, 0, texts.known - 1)) {
            return BAD;
        }
        int was = now.law;
        now.law = t;
        return was;
    }

    public int asks(int part, int h, int coal) {
        if (!isFromTo(part, 0, PARTS - 1) || !now.isHut(h) || !isFromTo(coal, 0, MOST_HEAT)) {
            return BAD;
        }
        return now.says(part, h, coal);
    }

    public int hut(int kindMore, int heatWood) {
        return now.comes(kindMore, heatWood);
    }

    public int put(int h, int what, int v) {
        if (!now.isHut(h)) {
            return NO_SUCH;
        }
        if (!isFromTo(what, HEAT, COLD) || !isFromTo(v, 0, mostOf(what))) {
            return NOT_AS_TOLD;
        }
        int was = now.stateOf(h, what);
        now.become(h, what, v);
        return was;
    }

    public int told(int h, int what) {
        if (!now.isHut(h)) {
            return NO_SUCH;
        }
        switch (what) {
            case 0:
            case 1:
            case 2: return now.stateOf(h, what);
            case 3: return now.kind[h];
            case 4: return now.more[h];
            case 5: return now.owes(h);
            case 6: return now.isOwed(h);
            case 7: return now.loansFrom(h);
            default: return NOT_AS_TOLD;
        }
    }

    // ---- loans

    public int lend(int fromTo, int coalNights) {
        int from = fromTo / 10;
        int to = fromTo % 10;
        if (fromTo < 0 || !now.isHut(from) || !now.isHut(to) || from == to) {
            return NO_SUCH;
        }
        if (!isCoalNights(coalNights, MOST_LOAN_NIGHTS)) {
            return NOT_AS_TOLD;
        }
        return now.lends(from, to, coalNights / 100, coalNights % 100);
    }

    public int loan(int k, int what) {
        if (!now.isLoan(k)) {
            return NO_SUCH;
        }
        switch (what) {
            case 0: return now.from[k];
            case 1: return now.to[k];
            case 2: return now.coal[k];
            case 3: return now.due[k];
            default: return NOT_AS_TOLD;
        }
    }

    public int repay(int k) {
        if (!now.isLoan(k)) {
            return NO_SUCH;
        }
        if (!now.canRepay(k)) {
            return STATE;
        }
        int coal = now.coal[k];
        now.payBack(k);
        now.drop(k);
        return coal;
    }

    public int forgive(int k) {
        if (!now.isLoan(k)) {
            return NO_SUCH;
        }
        int coal = now.coal[k];
        now.drop(k);
        return coal;
    }

    // ---- nights

    public int night() {
        return now.night >= LAST_NIGHT ? STATE : now.passNight();
    }

    public int run(int n, int what) {
        boolean ofHut = what >= 10 && now.isHut(what - 10);
        if (!isFromTo(n, 0, MOST_NIGHTS) || !(isFromTo(what, 0, 2) || ofHut)) {
            return BAD;
        }
        World w = think();
        int failed = w.passNights(n);
        switch (what) {
            case 0: return w.heatOfAll();
            case 1: return failed;
            case 2: return w.loans;
            default: return w.heat[what - 10];
        }
    }

    public int lasts(int h, int what) {
        if (!now.isHut(h)) {
            return NO_SUCH;
        }
        if (!isFromTo(what, 0, 1)) {
            return NOT_AS_TOLD;
        }
        return what == 0 ? nightsToFailing(h) : nightsToNoHeat(h);
    }

    private int nightsToFailing(int h) {
        World w = think();
        for (int n = 1; n <= MOST_NIGHTS; n++) {
            if (has(w.passNight(), h)) {
                return n;
            }
        }
        return NONE;
    }

    private int nightsToNoHeat(int h) {
        World w = think();
        for (int n = 0; n <= MOST_NIGHTS; n++) {
            if (w.heat[h] == 0) {
                return n;
            }
            w.passNight();
        }
        return NONE;
    }

    // ---- debts

    public int net(int h) {
        return now.isHut(h) ? now.isOwed(h) - now.owes(h) : NO_NET;
    }

    public int settle(int what) {
        if (!isFromTo(what, 0, 1)) {
            return BAD;
        }
        for (int h = 0; h < now.huts; h++) {
            nets[h] = net(h);
        }
        int payments = 0;
        int together = 0;
        // each payment brings one net to 0 at least, and none away from it
        for (int i = 0; i < now.huts; i++) {
            int paid = payOnce();
            if (paid > 0) {
                payments++;
                together += paid;
            }
        }
        return what == 0 ? payments : together;
    }

    /** The least of nets pays the most: how much; 0 if nobody owes. */
    private int payOnce() {
        int least = 0;
        int most = 0;
        for (int h = 1; h < now.huts; h++) {
            if (nets[h] < nets[least]) least = h;
            if (nets[h] > nets[most]) most = h;
        }
        int paid = Math.min(-nets[least], nets[most]);
        if (paid <= 0) {
            return 0;
        }
        nets[least] += paid;
        nets[most] -= paid;
        return paid;
    }

    public int source(int h) {
        return now.isHut(h) ? now.sourceOf(h) : NO_SUCH;
    }

    public int rings(int what) {
        if (!isFromTo(what, 0, 1)) {
            return BAD;
        }
        int bits = 0;
        for (int h = 0; h < now.huts; h++) {
            int sources = now.sourceOf(h);
            boolean counts = what == 0 ? has(sources, h) : sources == 0 && now.loansFrom(h) > 0;
            if (counts) bits |= 1 << h;
        }
        return bits;
    }

    // ---- what is best

    public int ask(int h, int coalNights, int what) {
        if (!now.isHut(h)) {
            return NO_SUCH;
        }
        if (!isCoalNights(coalNights, MOST_ASK_NIGHTS) || !isFromTo(what, 0, 1)) {
            return NOT_AS_TOLD;
        }
        int best = NONE;
        int most = NONE;
        for (int from = 0; from < now.huts; from++) {
            int heat = heatIfLent(from, h, coalNights);
            if (heat > most) {
                most = heat;
                best = from;
            }
        }
        return what == 0 ? best : most;
    }

    /** HEAT of all once such a loan is through; NONE if it would be refused. */
    private int heatIfLent(int from, int to, int coalNights) {
        World w = think();
        int nights = coalNights % 100;
        if (from == to || w.lends(from, to, coalNights / 100, nights) < 0) {
            return NONE;
        }
        w.passNights(nights + 1);
        return w.heatOfAll();
    }

    public int needs(int h, int n) {
        if (!now.isHut(h)) {
            return NO_SUCH;
        }
        if (!isFromTo(n, 0, MOST_NIGHTS)) {
            return NOT_AS_TOLD;
        }
        for (int wood = 0; wood <= MOST_WOOD; wood++) {
            World w = think();
            w.wood[h] = wood;
            if (!has(w.failedIn(n), h)) {
                return wood;
            }
        }
        return NONE;
    }

    public int mercy(int n, int what) {
        if (!isFromTo(n, 0, MOST_NIGHTS) || !isFromTo(what, 0, 1)) {
            return BAD;
        }
        int best = NONE;
        int fewest = Integer.bitCount(think().failedIn(n));
        for (int k = 0; k < now.loans; k++) {
            World w = think();
            w.drop(k);
            int failed = Integer.bitCount(w.failedIn(n));
            if (failed < fewest) {
                fewest = failed;
                best = k;
            }
        }
        return what == 0 ? best : fewest;
    }

    public int worst(int n, int what) {
        if (!isFromTo(n, 0, MOST_NIGHTS) || !isFromTo(what, 0, 1)) {
            return BAD;
        }
        int worst = NONE;
        int least = NONE;
        for (int h = 0; h < now.huts; h++) {
            int heat = heatOfOthersWithout(h, n);
            if (worst == NONE || heat < least) {
                least = heat;
                worst = h;
            }
        }
        return what == 0 ? worst : least;
    }

    private int heatOfOthersWithout(int h, int n) {
        World w = think();
        w.heat[h] = 0;
        w.wood[h] = 0;
        w.passNights(n);
        return w.heatOfAll() - w.heat[h];
    }

    // ---- told nights

    public int judge(int s, int h) {
        int refusal = judgeRefusal(s, h);
        return refusal != 0 ? refusal : firstOtherwise(s, think(), h);
    }

    public int kinds(int s, int h, int sort) {
        int refusal = judgeRefusal(s, h);
        if (refusal != 0) {
            return refusal;
        }
        if (!isFromTo(sort, 0, 1)) {
            return NOT_AS_TOLD;
        }
        int bits = 0;
        for (int v = 0; v <= (sort == 0 ? Kinds.LAST : MOST_MORE); v++) {
            World w = think();
            if (sort == 0) {
                w.kind[h] = v;
            } else {
                w.more[h] = v;
            }
            if (isTold(s, w, h)) bits |= 1 << v;
        }
        return bits;
    }

    public int states(int s, int h, int sort, int what) {
        int refusal = judgeRefusal(s, h);
        if (refusal != 0) {
            return refusal;
        }
        if (!isFromTo(sort, HEAT, COLD) || !isFromTo(what, 0, 1)) {
            return NOT_AS_TOLD;
        }
        int many = 0;
        int least = NONE;
        for (int v = 0; v <= (sort == HEAT ? MOST_STATE_HEAT : mostOf(sort)); v++) {
            World w = think();
            w.become(h, sort, v);
            if (isTold(s, w, h)) {
                many++;
                if (least == NONE) least = v;
            }
        }
        return what == 0 ? many : least;
    }

    public int whose(int s) {
        int refusal = toldRefusal(s);
        if (refusal != 0) {
            return refusal;
        }
        int bits = 0;
        for (int h = 0; h < now.huts; h++) {
            if (isTold(s, think(), h)) bits |= 1 << h;
        }
        return bits;
    }

    public int laws(int s, int h) {
        int refusal = judgeRefusal(s, h);
        if (refusal != 0) {
            return refusal;
        }
        int bits = 0;
        for (int t = 0; t < texts.known; t++) {
            World w = think();
            w.law = t;
            if (isTold(s, w, h)) bits |= 1 << t;
        }
        return bits;
    }

    public int film(int s, int h, int n) {
        if (!sheets.isSheet(s)) {
            return BAD;
        }
        if (!now.isHut(h)) {
            return NO_SUCH;
        }
        if (!isFromTo(n, 0, MOST_TOLD)) {
            return NOT_AS_TOLD;
        }
        sheets.renew(s, Sheets.SHORTS, n);
        World w = think();
        for (int i = 0; i < n; i++) {
            w.passNight();
            sheets.write(s, i, w.heat[h]);
        }
        return n;
    }

    /** What judge() answers of a SHEET and a HUT that stand, w being thought on from. */
    private int firstOtherwise(int s, World w, int h) {
        int size = sheets.sizeOf(s);
        for (int i = 0; i < size; i++) {
            w.passNight();
            if (w.heat[h] != sheets.at(s, i)) {
                return i;
            }
        }
        return NONE;
    }

    private boolean isTold(int s, World w, int h) {
        return firstOtherwise(s, w, h) == NONE;
    }

    /** Why a SHEET can't be judged by; 0 if it can. */
    private int toldRefusal(int s) {
        if (!sheets.isSheet(s)) {
            return BAD;
        }
        if (sheets.isMissing(s)) {
            return NOTHING_THERE;
        }
        return sheets.sizeOf(s) > MOST_TOLD ? BAD : 0;
    }

    private int judgeRefusal(int s, int h) {
        int refusal = toldRefusal(s);
        return refusal == 0 && !now.isHut(h) ? NO_SUCH : refusal;
    }

    // ---- snow by lots

    public int drawn(int seed, int snow, int what) {
        if (!isSnow(seed, snow) || !isFromTo(what, 0, 1)) {
            return BAD;
        }
        World w = think();
        int failed = w.passSnow(seed, snow);
        return what == 0 ? failed : w.heatOfAll();
    }

    public long odds(int seed, int seeds, int snow, int many, int part) {
        if (!isSnow(seed, snow) || !isFromTo(seeds, 1, MOST_SEEDS)
                || !isFromTo(many, 0, MOST_HUTS) || !isFromTo(part, 0, 1)) {
            return NO;
        }
        int above = 0;
        for (int i = 0; i < seeds; i++) {
            if (Integer.bitCount(think().passSnow(seed + i, snow)) >= many) above++;
        }
        int shared = greatestShared(above, seeds);
        return part == 0 ? above / shared : seeds / shared;
    }

    /** The greatest number from 1 on that divides both; below is 1 or more. */
    private static int greatestShared(int above, int below) {
        for (int d = below; d > 1; d--) {
            if (above % d == 0 && below % d == 0) {
                return d;
            }
        }
        return 1;
    }

    public int image() {
        kept.becomeAs(now);
        isKept = true;
        return now.huts;
    }

    public int back() {
        if (!isKept) {
            return STATE;
        }
        now.becomeAs(kept);
        return now.huts;
    }

    // ---- the host

    public int sheet(int s, int sort, int n) {
        if (!sheets.isSheet(s) || !isFromTo(sort, Sheets.MISSING, Sheets.INTS)) {
            return BAD;
        }
        int size = sort == Sheets.MISSING ? 0 : n;
        if (size > Sheets.MOST) {
            return BAD;
        }
        if (size < 0) {
            return BELOW_ZERO;
        }
        sheets.renew(s, sort, size);
        return 1;
    }

    public int cell(int s, int i, int v) {
        if (!sheets.isSheet(s)) {
            return BAD;
        }
        if (sheets.isMissing(s)) {
            return NOTHING_THERE;
        }
        if (!sheets.isPlace(s, i)) {
            return OUTSIDE;
        }
        sheets.write(s, i, v);
        return 1;
    }

    public int copy(int s, int i, int other, int j, int n) {
        if (!sheets.isSheet(s) || !sheets.isSheet(other)) {
            return BAD;
        }
        if (sheets.isMissing(s) || sheets.isMissing(other)) {
            return NOTHING_THERE;
        }
        if (sheets.sortOf(s) != sheets.sortOf(other)) {
            return UNLIKE;
        }
        if (!sheets.isStretch(s, i, n) || !sheets.isStretch(other, j, n)) {
            return OUTSIDE;
        }
        sheets.move(s, i, other, j, n);
        return n;
    }

    public int hutsBy(int s, int sort, int from1, int n) {
        if (!sheets.isSheet(s) || !isFromTo(sort, Sheets.BYTES, Sheets.INTS) || !isFromTo(n, 0, MOST_HUTS)) {
            return BAD;
        }
        if (sheets.isMissing(s)) {
            return NOTHING_THERE;
        }
        if (sheets.sortOf(s) != sort) {
            return UNLIKE;
        }
        int came = 0;
        for (int k = 0; k < n; k++) {
            if (!sheets.isStretch(s, from1, 2 * k + 2)) {
                return OUTSIDE;
            }
            int place = from1 + 2 * k;
            if (now.comes(sheets.at(s, place), sheets.at(s, place + 1)) >= 0) came++;
        }
        return came;
    }

    public int taken(int i, int kind) {
        if (!isFromTo(kind, 0, Kinds.LAST + 1)) {
            return BAD;
        }
        if (!isFromTo(i, 0, 2 * MOST_HUTS - 1)) {
            return OUTSIDE;
        }
        int h = i % MOST_HUTS;
        if (!now.isHut(h)) {
            return NOTHING_THERE;
        }
        boolean forHeat = kind > Kinds.LAST;
        if (i >= MOST_HUTS) {
            return forHeat ? now.heat[h] : UNLIKE;
        }
        return !forHeat && Kinds.isOne(now.kind[h], kind) ? h : UNLIKE;
    }

    // ---- what several calls need

    /** All as it is now, to be thought on from; the thought before is gone. */
    private World think() {
        thought.becomeAs(now);
        return thought;
    }

    private static boolean isFromTo(int v, int least, int most) {
        return v >= least && v <= most;
    }

    private static boolean isByte(int v) {
        return isFromTo(v, 0, 255);
    }

    private static boolean isCoalNights(int coalNights, int mostNights) {
        return coalNights >= 0 && isFromTo(coalNights / 100, 1, MOST_HEAT)
                && isFromTo(coalNights % 100, 1, mostNights);
    }

    private static boolean isSnow(int seed, int snow) {
        return isFromTo(seed, 0, MOST_SEED) && isFromTo(snow, 0, MOST_SNOW);
    }

    private static boolean has(int bits, int h) {
        return (bits >> h & 1) != 0;
    }

    private static int mostOf(int state) {
        switch (state) {
            case HEAT: return MOST_HEAT;
            case WOOD: return MOST_WOOD;
            default: return MOST_COLD;
        }
    }

    /** What a KIND makes of what the text says. */
    private static final class Kinds {
        static final int LAST = 5;
        private static final int WIDOW = 1, OVEN = 2, THATCH = 3, DEBTOR = 4, GLASS = 5;
        private static final int[] ABOVE = {-1, 0, 0, 1, 2, 0};

        static boolean isOne(int kind, int of) {
            int k = kind;
            for (int i = 0; i < ABOVE.length && k >= 0 && k < ABOVE.length; i++) {
                if (k == of) {
                    return true;
                }
                k = ABOVE[k];
            }
            return false;
        }

        static int growth(int kind, int more, int coal, int said) {
            switch (kind) {
                case WIDOW:
                case THATCH: return coal > 50 ? said + more : said;
                case DEBTOR: return 2 * said + 1;
                case GLASS: return 0;
                default: return said;
            }
        }

        static int cooling(int kind, int heat, int said) {
            switch (kind) {
                case WIDOW: return said / 2;
                case THATCH: return heat > 200 ? heat : said / 2;
                case OVEN:
                case DEBTOR: return said + heat / 20;
                default: return said;
            }
        }

        static int burning(int kind, int more, int night, int said) {
            switch (kind) {
                case OVEN: return 2 * said;
                case THATCH: return said + more;
                case DEBTOR: return night < more ? 0 : 2 * said;
                case GLASS: return night % 2 != 0 ? 30 : 0;
                default: return said;
            }
        }
    }

    /** HUTS, LOANS, NIGHT and THE LAW, as they truly are, as kept, or in thought. */
    private static final class World {
        final int[] heat = new int[MOST_HUTS];
        final int[] wood = new int[MOST_HUTS];
        final int[] cold = new int[MOST_HUTS];
        final int[] kind = new int[MOST_HUTS];
        final int[] more = new int[MOST_HUTS];
        final int[] from = new int[MOST_LOANS];
        final int[] to = new int[MOST_LOANS];
        final int[] coal = new int[MOST_LOANS];
        final int[] due = new int[MOST_LOANS];
        int huts;
        int loans;
        int night;
        int law;
        private final Texts texts;
        private final int[] names = new int[Code.NAMES];

        World(Texts texts) {
            this.texts = texts;
        }

        void becomeAs(World other) {
            System.arraycopy(other.heat, 0, heat, 0, MOST_HUTS);
            System.arraycopy(other.wood, 0, wood, 0, MOST_HUTS);
            System.arraycopy(other.cold, 0, cold, 0, MOST_HUTS);
            System.arraycopy(other.kind, 0, kind, 0, MOST_HUTS);
            System.arraycopy(other.more, 0, more, 0, MOST_HUTS);
            System.arraycopy(other.from, 0, from, 0, MOST_LOANS);
            System.arraycopy(other.to, 0, to, 0, MOST_LOANS);
            System.arraycopy(other.coal, 0, coal, 0, MOST_LOANS);
            System.arraycopy(other.due, 0, due, 0, MOST_LOANS);
            huts = other.huts;
            loans = other.loans;
            night = other.night;
            law = other.law;
        }

        boolean isHut(int h) {
            return h >= 0 && h < huts;
        }

        boolean isLoan(int k) {
            return k >= 0 && k < loans;
        }

        /** What hut() answers. */
        int comes(int kindMore, int heatWood) {
            if (!isFromTo(kindMore, 0, MOST_KIND_MORE) || !isFromTo(heatWood, 0, 100 * MOST_HEAT + MOST_WOOD)) {
                return BAD;
            }
            if (huts >= MOST_HUTS) {
                return FULL;
            }
            kind[huts] = kindMore / 10;
            more[huts] = kindMore % 10;
            heat[huts] = heatWood / 100;
            wood[huts] = heatWood % 100;
            cold[huts] = 0;
            huts++;
            return huts - 1;
        }

        int stateOf(int h, int what) {
            switch (what) {
                case HEAT: return heat[h];
                case WOOD: return wood[h];
                default: return cold[h];
            }
        }

        void become(int h, int what, int v) {
            switch (what) {
                case HEAT: heat[h] = v; break;
                case WOOD: wood[h] = v; break;
                default: cold[h] = v; break;
            }
        }

        int heatOfAll() {
            int sum = 0;
            for (int h = 0; h < huts; h++) {
                sum += heat[h];
            }
            return sum;
        }

        int owes(int h) {
            return coalsWhere(to, h);
        }

        int isOwed(int h) {
            return coalsWhere(from, h);
        }

        private int coalsWhere(int[] side, int h) {
            int sum = 0;
            for (int k = 0; k < loans; k++) {
                if (side[k] == h) sum += coal[k];
            }
            return sum;
        }

        int loansFrom(int h) {
            int many = 0;
            for (int k = 0; k < loans; k++) {
                if (from[k] == h) many++;
            }
            return many;
        }

        int sourceOf(int h) {
            int found = 0;
            // each round but the last finds one HUT more at least
            for (int round = 0; round < huts; round++) {
                for (int k = 0; k < loans; k++) {
                    if (to[k] == h || has(found, to[k])) found |= 1 << from[k];
                }
            }
            return found;
        }

        /** What lend() answers of two HUTS that stand, and a COAL and nights as told. */
        int lends(int one, int other, int much, int nights) {
            if (loans >= MOST_LOANS) {
                return FULL;
            }
            if (cold[one] > 0 || heat[one] < much) {
                return STATE;
            }
            pass(one, other, much);
            from[loans] = one;
            to[loans] = other;
            coal[loans] = much;
            due[loans] = night + nights;
            loans++;
            return loans - 1;
        }

        private void pass(int giver, int taker, int much) {
            heat[giver] -= much;
            heat[taker] = Math.min(MOST_HEAT, heat[taker] + much);
        }

        boolean canRepay(int k) {
            return heat[to[k]] >= coal[k];
        }

        void payBack(int k) {
            pass(to[k], from[k], coal[k]);
        }

        void drop(int k) {
            loans--;
            for (int i = k; i < loans; i++) {
                from[i] = from[i + 1];
                to[i] = to[i + 1];
                coal[i] = coal[i + 1];
                due[i] = due[i + 1];
            }
        }

        /** A NIGHT: who FAILED in it. */
        int passNight() {
            for (int k = 0; k < loans; k++) {
                grow(k);
            }
            int failed = endDueLoans();
            for (int h = 0; h < huts; h++) {
                warm(h);
            }
            night++;
            return failed;
        }

        int passNights(int n) {
            int failed = 0;
            for (int i = 0; i < n; i++) {
                failed |= passNight();
            }
            return failed;
        }

        /** Who FAILED in n NIGHTS; those without LOANS, in which none can, are left out. */
        int failedIn(int n) {
            int failed = 0;
            for (int i = 0; i < n && loans > 0; i++) {
                failed |= passNight();
            }
            return failed;
        }

        int passSnow(int seed, int snow) {
            if (huts <= 0) {
                return 0;
            }
            int failed = 0;
            long lot = seed + 1L;
            for (int i = 0; i < SNOW_NIGHTS; i++) {
                lot = lot * LOT_FACTOR % LOT_MODULUS;
                int h = (int) (lot % huts);
                heat[h] = Math.max(0, heat[h] - snow);
                failed |= passNight();
            }
            return failed;
        }

        private void grow(int k) {
            int h = to[k];
            int growth = Kinds.growth(kind[h], more[h], coal[k], says(GROWS, h, coal[k]));
            coal[k] = Math.min(MOST_HEAT, coal[k] + growth);
        }

        private int endDueLoans() {
            int failed = 0;
            int k = 0;
            // by numbers: one that ends makes way for the next at its own number
            for (int left = loans; left > 0; left--) {
                if (due[k] > night) {
                    k++;
                    continue;
                }
                if (canRepay(k)) {
                    payBack(k);
                } else {
                    cold[to[k]] = COLD_BY_FAILING;
                    failed |= 1 << to[k];
                }
                drop(k);
            }
            return failed;
        }

        private void warm(int h) {
            if (cold[h] > 0) {
                cold[h]--;
                heat[h] = 0;
                return;
            }
            if (wood[h] > 0) {
                int burning = Kinds.burning(kind[h], more[h], night, says(BURNS, h, 0));
                heat[h] = Math.min(MOST_HEAT, heat[h] + burning);
                wood[h]--;
            }
            int cooling = Kinds.cooling(kind[h], heat[h], says(COOLS, h, 0));
            heat[h] = Math.max(0, heat[h] - cooling);
        }

        /** What a part of THE LAW says of a HUT. */
        int says(int part, int h, int coalNow) {
            names[Code.HEAT_NAME] = heat[h];
            names[Code.WOOD_NAME] = wood[h];
            names[Code.NIGHT_NAME] = night;
            names[Code.COAL_NAME] = coalNow;
            names[Code.OWED_NAME] = owes(h);
            names[Code.MORE_NAME] = more[h];
            return Math.max(0, Math.min(MOST_SAID, texts.valueOf(law, part, names)));
        }
    }

    /** What an E is read into: numbers from 0 on stand for themselves, each below 0 does as told here. */
    private static final class Code {
        static final int NAMES = 6;
        static final int HEAT_NAME = 0, WOOD_NAME = 1, NIGHT_NAME = 2, COAL_NAME = 3, OWED_NAME = 4, MORE_NAME = 5;
        private static final int FIRST_NAME = -1;
        static final int MINUS = -11, NOT = -12;
        static final int ADD = -21, SUBTRACT = -22, TIMES = -23, LESS = -24, LIKE = -25, AND = -26, OR = -27;

        /** The code of a name by its number, and its number by the code. */
        static int ofName(int name) {
            return FIRST_NAME - name;
        }

        static boolean isName(int code) {
            return code <= FIRST_NAME && code > FIRST_NAME - NAMES;
        }

        static boolean isOfOne(int code) {
            return code == MINUS || code == NOT;
        }

        static int ofOne(int code, int a) {
            if (code == MINUS) {
                return -a;
            }
            return a == 0 ? 1 : 0;
        }

        static boolean isOfTwo(int code) {
            return code <= ADD && code >= OR;
        }

        static int ofTwo(int code, int a, int b) {
            switch (code) {
                case ADD: return a + b;
                case SUBTRACT: return a - b;
                case TIMES: return a * b;
                case LESS: return a < b ? 1 : 0;
                case LIKE: return a == b ? 1 : 0;
                case AND: return a != 0 && b != 0 ? 1 : 0;
                default: return a != 0 || b != 0 ? 1 : 0;
            }
        }
    }

    /** TEXTS, each part as a row of Code that brings its values ahead of what is done with them. */
    private static final class Texts {
        private final int[] code = new int[MOST_TEXTS * MOST_BYTES];
        private final int[] ends = new int[MOST_TEXTS * PARTS];
        private final int[] stack = new int[MOST_BYTES];
        int known;

        /** Keeps what was read last: its number. */
        int keep(Reader reader) {
            if (known >= MOST_TEXTS) {
                return FULL;
            }
            System.arraycopy(reader.code, 0, code, known * MOST_BYTES, MOST_BYTES);
            System.arraycopy(reader.ends, 0, ends, known * PARTS, PARTS);
            known++;
            return known - 1;
        }

        int valueOf(int t, int part, int[] names) {
            int start = t * MOST_BYTES + (part == 0 ? 0 : ends[t * PARTS + part - 1]);
            int end = t * MOST_BYTES + ends[t * PARTS + part];
            int top = 0;
            for (int i = start; i < end; i++) {
                int c = code[i];
                int v = c;
                if (Code.isOfTwo(c) && top >= 2) {
                    top -= 2;
                    v = Code.ofTwo(c, stack[top], stack[top + 1]);
                } else if (Code.isOfOne(c) && top >= 1) {
                    top -= 1;
                    v = Code.ofOne(c, stack[top]);
                } else if (Code.isName(c)) {
                    v = names[Code.ofName(c)];
                }
                if (top < stack.length) {
                    stack[top] = v;
                    top++;
                }
            }
            return top > 0 ? stack[0] : 0;
        }
    }

    /** THE TAPE, and how it is read. */
    private static final class Reader {
        private static final int MOST_OPEN = 5, MOST_DIGITS = 4;
        /** TOKENS; a SIGN is its own byte. */
        private static final int END = 0, WRONG = 1, NUMBER = 2, NAME = 3;
        private static final int KEY_GROWS = 4, KEY_COOLS = 5, KEY_BURNS = 6, KEY_OR = 7, KEY_AND = 8, KEY_NOT = 9;

        private final int[] bytes = new int[MOST_BYTES];
        int size;
        final int[] code = new int[MOST_BYTES];
        private int codes;
        final int[] ends = new int[PARTS];
        private int place;
        private int start;
        private int token;
        private int number;
        private int fault;

        void takeByte(int b) {
            if (size < bytes.length) {
                bytes[size] = b;
                size++;
            }
        }

        void clear() {
            size = 0;
        }

        /** Reads all into code and ends: the place of the FAULT, NONE if it is a TEXT. */
        int readText() {
            place = 0;
            codes = 0;
            fault = NONE;
            readToken();
            for (int part = 0; part < PARTS; part++) {
                expect(KEY_GROWS + part);
                readOr(0);
                expect(';');
                ends[part] = codes;
            }
            expect(END);
            return fault;
        }

        private void expect(int wanted) {
            if (token == wanted) {
                readToken();
            } else {
                fail();
            }
        }

        /** The first FAULT stands; behind it there are but wrong TOKENS, so that all reading ends. */
        private void fail() {
            if (fault == NONE) {
                fault = start;
            }
            token = WRONG;
        }

        private void emit(int c) {
            if (codes < code.length) {
                code[codes] = c;
                codes++;
            }
        }

        private void readOr(int open) {
            readAnd(open);
            for (int i = 0; i < MOST_BYTES && token == KEY_OR; i++) {
                readToken();
                readAnd(open);
                emit(Code.OR);
            }
        }

        private void readAnd(int open) {
            readNot(open);
            for (int i = 0; i < MOST_BYTES && token == KEY_AND; i++) {
                readToken();
                readNot(open);
                emit(Code.AND);
            }
        }

        private void readNot(int open) {
            if (token == KEY_NOT) {
                if (opens(open)) {
                    readNot(open + 1);
                    emit(Code.NOT);
                }
                return;
            }
            readSum(open);
            if (token == '<' || token == '=') {
                int done = token == '<' ? Code.LESS : Code.LIKE;
                readToken();
                readSum(open);
                emit(done);
            }
        }

        private void readSum(int open) {
            readTerm(open);
            for (int i = 0; i < MOST_BYTES && (token == '+' || token == '-'); i++) {
                int done = token == '+' ? Code.ADD : Code.SUBTRACT;
                readToken();
                readTerm(open);
                emit(done);
            }
        }

        private void readTerm(int open) {
            readOne(open);
            for (int i = 0; i < MOST_BYTES && token == '*'; i++) {
                readToken();
                readOne(open);
                emit(Code.TIMES);
            }
        }

        private void readOne(int open) {
            if (token == NUMBER || token == NAME) {
                emit(token == NUMBER ? number : Code.ofName(number));
                readToken();
            } else if (token == '-') {
                if (opens(open)) {
                    readOne(open + 1);
                    emit(Code.MINUS);
                }
            } else if (token == '(') {
                if (opens(open)) {
                    readOr(open + 1);
                    expect(')');
                }
            } else {
                fail();
            }
        }

        /** Goes behind a TOKEN that opens, if not too many are open. */
        private boolean opens(int open) {
            if (open >= MOST_OPEN) {
                fail();
                return false;
            }
            readToken();
            return true;
        }

        private void readToken() {
            for (int i = place; i < size && isBlank(byteAt(i)); i++) {
                place = i + 1;
            }
            start = place;
            int b = byteAt(start);
            if (start >= size) {
                token = END;
            } else if (isLetter(b)) {
                place = endOfWord();
                number = nameRead();
                token = number == NONE ? keyRead() : NAME;
            } else if (isDigit(b)) {
                readNumber();
            } else {
                place = start + 1;
                token = isSign(b) ? b : WRONG;
            }
        }

        private int endOfWord() {
            int end = start;
            for (int i = start; i < size && isLetter(byteAt(i)); i++) {
                end = i + 1;
            }
            return end;
        }

        private void readNumber() {
            number = 0;
            for (int i = start; i < size && isDigit(byteAt(i)); i++) {
                place = i + 1;
                // what wraps here is too long anyway
                number = number * 10 + byteAt(i) - '0';
            }
            token = place - start > MOST_DIGITS ? WRONG : NUMBER;
        }

        private int keyRead() {
            if (isRead("grows")) return KEY_GROWS;
            if (isRead("cools")) return KEY_COOLS;
            if (isRead("burns")) return KEY_BURNS;
            if (isRead("or")) return KEY_OR;
            if (isRead("and")) return KEY_AND;
            return isRead("not") ? KEY_NOT : WRONG;
        }

        private int nameRead() {
            if (isRead("heat")) return Code.HEAT_NAME;
            if (isRead("wood")) return Code.WOOD_NAME;
            if (isRead("night")) return Code.NIGHT_NAME;
            if (isRead("coal")) return Code.COAL_NAME;
            if (isRead("owed")) return Code.OWED_NAME;
            return isRead("more") ? Code.MORE_NAME : NONE;
        }

        private boolean isRead(String word) {
            if (place - start != word.length()) {
                return false;
            }
            for (int i = 0; i < word.length(); i++) {
                if (byteAt(start + i) != word.charAt(i)) {
                    return false;
                }
            }
            return true;
        }

        private int byteAt(int i) {
            return i >= 0 && i < bytes.length ? bytes[i] : NONE;
        }

        private static boolean isBlank(int b) {
            return b == 32 || b == 10;
        }

        private static boolean isLetter(int b) {
            return isFromTo(b, 'a', 'z');
        }

        private static boolean isDigit(int b) {
            return isFromTo(b, '0', '9');
        }

        private static boolean isSign(int b) {
            switch (b) {
                case '(':
                case ')':
                case ';':
                case '+':
                case '-':
                case '*':
                case '<':
                case '=': return true;
                default: return false;
            }
        }
    }

    /** SHEETS, all in one row of numbers, MOST for each. */
    private static final class Sheets {
        static final int MISSING = -1, BYTES = 0, SHORTS = 1, INTS = 2;
        static final int MOST = 40;
        private static final int SHEETS = 4;

        private final int[] sorts = {MISSING, MISSING, MISSING, MISSING};
        private final int[] sizes = new int[SHEETS];
        private final int[] numbers = new int[SHEETS * MOST];

        boolean isSheet(int s) {
            return s >= 0 && s < SHEETS;
        }

        boolean isMissing(int s) {
            return sorts[s] == MISSING;
        }

        int sortOf(int s) {
            return sorts[s];
        }

        int sizeOf(int s) {
            return sizes[s];
        }

        boolean isPlace(int s, int i) {
            return i >= 0 && i < sizes[s];
        }

        boolean isStretch(int s, int i, int n) {
            return i >= 0 && n >= 0 && (long) i + n <= sizes[s];
        }

        void renew(int s, int sort, int size) {
            sorts[s] = sort;
            sizes[s] = size;
            for (int i = 0; i < MOST; i++) {
                numbers[s * MOST + i] = 0;
            }
        }

        int at(int s, int i) {
            return numbers[s * MOST + i];
        }

        void write(int s, int i, int v) {
            int kept = v;
            if (sorts[s] == BYTES) kept = (byte) v;
            if (sorts[s] == SHORTS) kept = (short) v;
            numbers[s * MOST + i] = kept;
        }

        void move(int s, int i, int other, int j, int n) {
            System.arraycopy(numbers, s * MOST + i, numbers, other * MOST + j, n);
        }
    }
}
