/**
 * A church barge whose weddings are balanced guest by guest. The words in capitals are those of the
 * document; every call answers a number, and a refused call changes nothing but finding(), findings().
 */
public final class HeavierSide {
    public static final int BAD = -1, FULL = -2, FINDING = -3, STATE = -4, SPENT = -6, NONE = -9;

    private static final int NOTHING = 1, BEYOND = 2, UNLIKE = 3, NOUGHT = 4, SIZE = 5, FINDINGS = 5;
    private static final int ROWS = 6, TEXTS = 4, LENGTH = 60, MISSING = -1;
    private static final int MOST_BENCHES = 8, MOST_GUESTS = 7, MOST_MINUTES = 40, SEATS = 2;
    private static final int MOST_QUARRELS = 8, MOST_DEEDS = 60, KEPT_PLACES = 3;
    private static final int MOST_COMING = 5, MOST_INVITED = 4;
    private static final int MOST_LIMIT = 999, MOST_RAIN = 200, MOST_APART = 99, MOST_COST = 99;
    private static final int SITTING = 0, STANDING = 1, KNEELING = 2, POSTURES = 3;
    private static final int AUNT = 1, UNCLE = 2, CHILD = 3, CHOIR = 4, COUSIN = 5, KINDS = 6;
    private static final int SEAT = 0, RISE = 1, CHANGE = 2;
    private static final int COUNTS = 10, BENCH_TELLS = 4, GUEST_TELLS = 5;
    private static final long LOT_FACTOR = 48271L, LOT_MODULUS = 2147483647L;

    private final Told told = new Told();
    private final Row[] rows = new Row[ROWS];
    private final Text[] texts = new Text[TEXTS];
    private final Barge barge = new Barge();
    private final Quarrels quarrels = barge.quarrels;
    private final Rite rite = new Rite();
    private final Deeds deeds = new Deeds();
    private final Kept kept = new Kept();
    private final Seatings seatings = new Seatings(barge, rite);
    private final Leaving leaving = new Leaving(barge);
    private final Invitation invitation = new Invitation(barge);

    public HeavierSide() {
        for (int r = 0; r < ROWS; r++) {
            rows[r] = new Row();
        }
        for (int t = 0; t < TEXTS; t++) {
            texts[t] = new Text();
        }
    }

    // ---- 1 rows, texts, barges, rites

    public int row(int r, int n) {
        Row row = rowOf(r);
        if (row == null || n > LENGTH) {
            return BAD;
        }
        if (n < 0) {
            return told.found(SIZE);
        }
        row.renew(n);
        return n;
    }

    public int lay(int r, int i, int v) {
        Row row = rowOf(r);
        if (row == null) {
            return BAD;
        }
        int refused = placeRefused(row, i);
        if (refused != 0) {
            return refused;
        }
        told.tell(row.placeAt(i));
        row.set(i, v);
        return 1;
    }

    public int at(int r, int i) {
        Row row = rowOf(r);
        if (row == null) {
            return BAD;
        }
        int refused = placeRefused(row, i);
        if (refused != 0) {
            return refused;
        }
        told.tell(row.placeAt(i));
        return 1;
    }

    public int tear(int r) {
        Row row = rowOf(r);
        if (row == null) {
            return BAD;
        }
        if (row.isMissing()) {
            return told.found(NOTHING);
        }
        row.lose();
        return 1;
    }

    public int copy(int r, int i, int to, int j, int n) {
        Row from = rowOf(r);
        Row into = rowOf(to);
        if (from == null || into == null) {
            return BAD;
        }
        if (n < 0) {
            return told.found(SIZE);
        }
        if (from.isMissing() || into.isMissing()) {
            return told.found(NOTHING);
        }
        if (!from.holds(i, n) || !into.holds(j, n)) {
            return told.found(BEYOND);
        }
        System.arraycopy(from.places, i, into.places, j, n);
        return 1;
    }

    public int mean(int r) {
        Row row = rowOf(r);
        if (row == null) {
            return BAD;
        }
        if (row.isMissing()) {
            return told.found(NOTHING);
        }
        if (row.size == 0) {
            return told.found(NOUGHT);
        }
        told.tell((int) (row.sum() / row.size));
        return 1;
    }

    public int text(int t, int n) {
        Text text = textOf(t);
        if (text == null || n > LENGTH) {
            return BAD;
        }
        if (n < 0) {
            return told.found(SIZE);
        }
        text.renew(n);
        return n;
    }

    public int put(int t, int i, int v) {
        Text text = textOf(t);
        if (text == null) {
            return BAD;
        }
        if (text.isMissing()) {
            return told.found(NOTHING);
        }
        if (!text.has(i)) {
            return told.found(BEYOND);
        }
        int was = text.bytes[i];
        text.bytes[i] = (byte) v;
        return was + 1000;
    }

    public int fault(int t, boolean rite) {
        Text text = textOf(t);
        if (text == null) {
            return BAD;
        }
        if (text.isMissing()) {
            return told.found(NOTHING);
        }
        return rite ? text.faultAsRite() : text.faultAsBarge();
    }

    public int barge(int t) {
        Text text = textOf(t);
        if (text == null) {
            return BAD;
        }
        if (text.isMissing()) {
            return told.found(NOTHING);
        }
        if (text.faultAsBarge() != NONE) {
            return STATE;
        }
        barge.clear();
        text.fillBarge(barge);
        deeds.forgetAll();
        kept.forgetAll();
        return barge.benches;
    }

    public int rite(int t) {
        Text text = textOf(t);
        if (text == null) {
            return BAD;
        }
        if (text.isMissing()) {
            return told.found(NOTHING);
        }
        if (text.faultAsRite() != NONE) {
            return STATE;
        }
        rite.clear();
        text.fillRite(rite);
        return rite.minutes;
    }

    public int bench(int b, int what) {
        if (!barge.isBench(b) || !isWithin(what, 0, BENCH_TELLS - 1)) {
            return BAD;
        }
        told.tell(ofBench(b, what));
        return 1;
    }

    public int guest(int g, int what) {
        if (!barge.isGuest(g) || !isWithin(what, 0, GUEST_TELLS - 1)) {
            return BAD;
        }
        told.tell(ofGuest(g, what));
        return 1;
    }

    public int mark(int g, int kind) {
        if (!barge.isGuest(g) || !isWithin(kind, AUNT, KINDS - 1)) {
            return BAD;
        }
        if (!barge.isOf(g, kind)) {
            return told.found(UNLIKE);
        }
        int b = barge.benchOf(g);
        switch (kind) {
            case AUNT:
                return barge.momentOf(g, b, STANDING) - barge.momentOf(g, b, SITTING);
            case UNCLE:
                return barge.momentOf(g, b, KNEELING) - barge.momentOf(g, b, SITTING);
            case CHILD:
                return b == NONE ? NONE : Integer.bitCount(barge.whoOn(b)) - 1;
            case CHOIR:
                return Barge.farOut(CHOIR, barge.xOf(b), STANDING);
            default:
                return Integer.bitCount(barge.seatedSet() & barge.kinSet(barge.kinOf(g)) & ~(1 << g));
        }
    }

    public int limit(int v) {
        if (!isWithin(v, 0, MOST_LIMIT)) {
            return BAD;
        }
        int was = barge.limit;
        barge.limit = v;
        return was;
    }

    public int rain(int v) {
        if (!isWithin(v, -MOST_RAIN, MOST_RAIN)) {
            return BAD;
        }
        told.tell(barge.rain);
        barge.rain = v;
        return 1;
    }

    public int quarrel(int g, int h) {
        if (!barge.isGuest(g) || !barge.isGuest(h) || g == h) {
            return BAD;
        }
        if (quarrels.size >= MOST_QUARRELS) {
            return FULL;
        }
        quarrels.add(g, h);
        return quarrels.size - 1;
    }

    public int peace(int n) {
        if (!isWithin(n, 0, quarrels.size)) {
            return BAD;
        }
        int over = quarrels.size - n;
        quarrels.cutTo(n);
        return over;
    }

    // ---- 2 deeds

    public int seat(int g, int b) {
        if (!barge.isGuest(g) || !barge.isBench(b)) {
            return BAD;
        }
        int was = barge.benchOf(g);
        if (was == b || !barge.mayTake(g, b)) {
            return STATE;
        }
        barge.place(g, b);
        deeds.remember(SEAT, g, was);
        return b;
    }

    public int rise(int g) {
        if (!barge.isGuest(g)) {
            return BAD;
        }
        int was = barge.benchOf(g);
        if (was == NONE) {
            return STATE;
        }
        barge.place(g, NONE);
        deeds.remember(RISE, g, was);
        return was;
    }

    public int change(int g, int h) {
        if (!barge.isGuest(g) || !barge.isGuest(h) || g == h) {
            return BAD;
        }
        if (!barge.trade(g, h)) {
            return STATE;
        }
        deeds.remember(CHANGE, g, h);
        return 1;
    }

    public int undo() {
        if (deeds.size == 0) {
            return STATE;
        }
        int sort = deeds.lastSort();
        int g = deeds.lastGuest();
        int other = deeds.lastOther();
        deeds.forgetLast();
        if (sort == CHANGE) {
            barge.swap(g, other);
        } else {
            barge.place(g, other);
        }
        return sort;
    }

    public int keep(int k) {
        if (!isWithin(k, 0, KEPT_PLACES - 1)) {
            return BAD;
        }
        if (barge.benches == 0) {
            return STATE;
        }
        kept.take(k, barge);
        return barge.seatedCount();
    }

    public int on(int k) {
        if (!isWithin(k, 0, KEPT_PLACES - 1)) {
            return BAD;
        }
        if (!kept.has(k)) {
            return told.found(NOTHING);
        }
        kept.restore(k, barge);
        deeds.forgetAll();
        return barge.seatedCount();
    }

    // ---- 3 how it lists

    public int list(int posture) {
        if (!isPosture(posture)) {
            return BAD;
        }
        int list = barge.listIn(posture);
        told.tell(list);
        return barge.isLevel(list) ? 1 : 0;
    }

    public int when() {
        for (int m = 0; m < rite.minutes; m++) {
            int list = barge.listIn(rite.postureIn(m));
            if (!barge.isLevel(list)) {
                told.tell(list);
                return m;
            }
        }
        return NONE;
    }

    public int minutes() {
        int level = 0;
        for (int m = 0; m < rite.minutes; m++) {
            if (barge.isLevel(barge.listIn(rite.postureIn(m)))) {
                level++;
            }
        }
        told.share(level, rite.minutes);
        return level;
    }

    public int worst() {
        int minute = worstMinute();
        told.tell(minute);
        return sizeIn(minute);
    }

    public int need() {
        int size = sizeIn(worstMinute());
        return size > MOST_LIMIT ? NONE : size;
    }

    // ---- 4 seatings

    public int best(int r) {
        Row row = rowOf(r);
        if (row == null) {
            return BAD;
        }
        int refused = seatingsRefused();
        if (refused != 0) {
            return refused;
        }
        seatings.search();
        if (seatings.all == 0) {
            return NONE;
        }
        row.take(seatings.leastSits, barge.guests);
        return seatings.leastWorst;
    }

    public int ways() {
        int refused = seatingsRefused();
        if (refused != 0) {
            return refused;
        }
        seatings.search();
        told.share(seatings.level, seatings.all);
        return seatings.level;
    }

    public int sure() {
        int refused = seatingsRefused();
        if (refused != 0) {
            return refused;
        }
        seatings.search();
        int set = 0;
        for (int g = 0; g < barge.guests; g++) {
            if (Integer.bitCount(seatings.levelBenches(g)) == 1) {
                set |= 1 << g;
            }
        }
        return set;
    }

    public int where(int g) {
        if (!barge.isGuest(g)) {
            return BAD;
        }
        if (barge.benchOf(g) != NONE) {
            return STATE;
        }
        int refused = seatingsRefused();
        if (refused != 0) {
            return refused;
        }
        seatings.search();
        int benches = seatings.levelBenches(g);
        told.tell(benches);
        return Integer.bitCount(benches);
    }

    // ---- 5 who changes, leaves, is invited

    public int aisle() {
        int least = Math.abs(barge.listIn(SITTING));
        int pair = NONE;
        for (int g = 0; g < barge.guests; g++) {
            for (int h = g + 1; h < barge.guests; h++) {
                if (barge.trade(g, h)) {
                    int size = Math.abs(barge.listIn(SITTING));
                    barge.swap(g, h);
                    if (size < least) {
                        least = size;
                        pair = 10 * g + h;
                    }
                }
            }
        }
        if (pair != NONE) {
            told.tell(least);
        }
        return pair;
    }

    public int leave(int r) {
        Row row = rowOf(r);
        if (row == null) {
            return BAD;
        }
        leaving.plan();
        if (!leaving.allCanLeave()) {
            return NONE;
        }
        int n = barge.seatedCount();
        row.take(leaving.firstOrder(), n);
        return n;
    }

    public int leavers() {
        leaving.plan();
        told.tell(leaving.lasts());
        return leaving.firsts();
    }

    public int invite(int w, int costs, int to) {
        Row weightRow = rowOf(w);
        Row costRow = rowOf(costs);
        Row into = rowOf(to);
        if (weightRow == null || costRow == null || into == null) {
            return BAD;
        }
        if (barge.benches == 0) {
            return STATE;
        }
        if (weightRow.isMissing() || costRow.isMissing()) {
            return told.found(NOTHING);
        }
        if (weightRow.size > MOST_INVITED || costRow.size != weightRow.size) {
            return told.found(SIZE);
        }
        if (!weightRow.allWithin(1, 9) || !costRow.allWithin(0, MOST_COST)) {
            return told.found(UNLIKE);
        }
        invitation.search(weightRow, costRow);
        if (invitation.least != NONE) {
            into.take(invitation.cheapest, invitation.invited);
        }
        return invitation.least;
    }

    public int far(int g, int posture) {
        if (!barge.isGuest(g) || !isPosture(posture)) {
            return BAD;
        }
        int others = barge.listIn(posture) - barge.momentOf(g, barge.benchOf(g), posture);
        int farthest = NONE;
        int first = NONE;
        for (int b = 0; b < barge.benches; b++) {
            int out = Math.abs(barge.xOf(b));
            if (out > farthest && barge.isLevel(others + barge.momentOf(g, b, posture))) {
                farthest = out;
                first = b;
            }
        }
        if (first != NONE) {
            told.tell(first);
        }
        return farthest;
    }

    public int crossed() {
        int across = 0;
        int broken = 0;
        for (int n = 0; n < quarrels.size; n++) {
            int b = barge.benchOf(quarrels.oneOf(n));
            int c = barge.benchOf(quarrels.otherOf(n));
            if (b != NONE && c != NONE) {
                if (barge.xOf(b) * barge.xOf(c) < 0) {
                    across++;
                }
                if (Math.abs(b - c) <= 1) {
                    broken++;
                }
            }
        }
        told.tell(broken);
        return across;
    }

    public int divorce() {
        int all = barge.weighAll(barge.everybody());
        int least = all;
        int heavier = barge.everybody();
        // downwards, so that of alike sets the least one is kept at last
        for (int set = barge.everybody(); set >= 0; set--) {
            int more = 2 * barge.weighAll(set) - all;
            if (more >= 0 && more <= least) {
                least = more;
                heavier = set;
            }
        }
        told.tell(heavier);
        return least;
    }

    public int kin(int d) {
        if (!isWithin(d, 0, MOST_APART)) {
            return BAD;
        }
        int all = barge.weighAll(barge.everybody());
        int grooms = barge.kinSet(1);
        int fewest = NONE;
        int least = 0;
        for (int moved = 0; moved <= barge.everybody(); moved++) {
            int apart = Math.abs(2 * barge.weighAll(grooms ^ moved) - all);
            int n = Integer.bitCount(moved);
            if (apart <= d && (fewest == NONE || n < fewest)) {
                fewest = n;
                least = moved;
            }
        }
        if (fewest != NONE) {
            told.tell(least);
        }
        return fewest;
    }

    // ---- 6 rain, storms

    public int odds(int posture, int k) {
        if (!isPosture(posture) || !isWithin(k, 0, MOST_RAIN)) {
            return BAD;
        }
        int dry = barge.dryListIn(posture);
        int level = 0;
        for (int fallen = -k; fallen <= k; fallen++) {
            if (barge.isLevel(dry + fallen)) {
                level++;
            }
        }
        told.share(level, 2 * k + 1);
        return level;
    }

    public int storm(int seed) {
        if (!isWithin(seed, 1, (int) (LOT_MODULUS - 1))) {
            return BAD;
        }
        long lot = seed;
        int fallen = barge.rain;
        int tooMuch = 0;
        for (int m = 0; m < rite.minutes; m++) {
            lot = lot * LOT_FACTOR % LOT_MODULUS;
            fallen += (int) (lot % 7) - 3;
            fallen = Math.max(-MOST_RAIN, Math.min(MOST_RAIN, fallen));
            if (!barge.isLevel(barge.dryListIn(rite.postureIn(m)) + fallen)) {
                tooMuch++;
            }
        }
        told.tell(fallen);
        return tooMuch;
    }

    // ---- 7 what is told

    public int asked() {
        return told.asked;
    }

    public long upper() {
        return told.upper;
    }

    public long lower() {
        return told.lower;
    }

    public int count(int what) {
        return isWithin(what, 0, COUNTS - 1) ? countOf(what) : BAD;
    }

    public int finding() {
        return told.finding;
    }

    public int findings(int f) {
        return isWithin(f, 1, FINDINGS) ? told.timesFound(f) : BAD;
    }

    public long digest() {
        long h = 17;
        for (int what = 0; what < COUNTS; what++) {
            h = 31 * h + countOf(what);
        }
        h = 31 * h + barge.limit;
        h = 31 * h + barge.rain;
        h = withBarge(h);
        for (int m = 0; m < rite.minutes; m++) {
            h = 31 * h + rite.postureIn(m);
        }
        for (int n = 0; n < quarrels.size; n++) {
            h = 31 * h + quarrels.oneOf(n);
            h = 31 * h + quarrels.otherOf(n);
        }
        return withTexts(withRows(withKept(h)));
    }

    // ---- what the calls share

    private static boolean isWithin(int v, int least, int most) {
        return v >= least && v <= most;
    }

    private static boolean isPosture(int posture) {
        return posture >= 0 && posture < POSTURES;
    }

    private Row rowOf(int r) {
        return r >= 0 && r < rows.length ? rows[r] : null;
    }

    private Text textOf(int t) {
        return t >= 0 && t < texts.length ? texts[t] : null;
    }

    /** 0 if place i of a ROW can be used. */
    private int placeRefused(Row row, int i) {
        if (row.isMissing()) {
            return told.found(NOTHING);
        }
        return row.has(i) ? 0 : told.found(BEYOND);
    }

    /** 0 if SEATINGS can be gone through now. */
    private int seatingsRefused() {
        if (barge.benches == 0) {
            return STATE;
        }
        return barge.guests - barge.seatedCount() > MOST_COMING ? SPENT : 0;
    }

    private int ofBench(int b, int what) {
        switch (what) {
            case 0:
                return barge.xOf(b);
            case 1:
                return barge.seatsTaken(b);
            case 2:
                return barge.weighAll(barge.whoOn(b));
            default:
                return barge.whoOn(b);
        }
    }

    private int ofGuest(int g, int what) {
        switch (what) {
            case 0:
                return barge.kindOf(g);
            case 1:
                return barge.weightOf(g);
            case 2:
                return barge.kinOf(g);
            case 3:
                return barge.benchOf(g);
            default:
                return barge.weighs(g);
        }
    }

    private int countOf(int what) {
        switch (what) {
            case 0:
                return barge.benches;
            case 1:
                return barge.guests;
            case 2:
                return barge.seatedCount();
            case 3:
                return rite.minutes;
            case 4:
                return barge.howManyOf(AUNT);
            case 5:
                return barge.howManyOf(UNCLE);
            case 6:
                return rowsThere();
            case 7:
                return textsThere();
            case 8:
                return quarrels.size;
            default:
                return deeds.size;
        }
    }

    private int rowsThere() {
        int there = 0;
        for (Row row : rows) {
            there += row == null || row.isMissing() ? 0 : 1;
        }
        return there;
    }

    private int textsThere() {
        int there = 0;
        for (Text text : texts) {
            there += text == null || text.isMissing() ? 0 : 1;
        }
        return there;
    }

    private int sizeIn(int minute) {
        return Math.abs(barge.listIn(rite.postureIn(minute)));
    }

    private int worstMinute() {
        int minute = 0;
        for (int m = 1; m < rite.minutes; m++) {
            if (sizeIn(m) > sizeIn(minute)) {
                minute = m;
            }
        }
        return minute;
    }

    private long withBarge(long before) {
        long h = before;
        for (int b = 0; b < barge.benches; b++) {
            for (int what = 0; what < BENCH_TELLS; what++) {
                h = 31 * h + ofBench(b, what);
            }
        }
        for (int g = 0; g < barge.guests; g++) {
            for (int what = 0; what < GUEST_TELLS; what++) {
                h = 31 * h + ofGuest(g, what);
            }
        }
        return h;
    }

    private long withKept(long before) {
        long h = before;
        for (int k = 0; k < KEPT_PLACES; k++) {
            if (kept.has(k)) {
                for (int g = 0; g < barge.guests; g++) {
                    h = 31 * h + kept.benchOf(k, g);
                }
            } else {
                h = 31 * h + MISSING;
            }
        }
        return h;
    }

    private long withRows(long before) {
        long h = before;
        for (Row row : rows) {
            if (row != null) {
                h = 31 * h + row.size;
                for (int i = 0; i < row.size; i++) {
                    h = 31 * h + row.placeAt(i);
                }
            }
        }
        return h;
    }

    private long withTexts(long before) {
        long h = before;
        for (Text text : texts) {
            if (text != null) {
                h = 31 * h + text.size;
                for (int i = 0; i < text.size; i++) {
                    h = 31 * h + text.byteAt(i);
                }
            }
        }
        return h;
    }

    /** What the calls tell beside their answers. */
    private static final class Told {
        int asked = 0;
        long upper = 0;
        long lower = 1;
        int finding = 0;
        final int[] times = new int[FINDINGS + 1];

        void tell(int v) {
            asked = v;
        }

        int found(int f) {
            finding = f;
            if (f >= 0 && f < times.length) {
                times[f]++;
            }
            return FINDING;
        }

        int timesFound(int f) {
            return f >= 0 && f < times.length ? times[f] : 0;
        }

        void share(int part, int whole) {
            int divisor = greatestDivisor(part, whole);
            if (part <= 0 || whole <= 0 || divisor <= 0) {
                upper = 0;
                lower = 1;
                return;
            }
            upper = part / divisor;
            lower = whole / divisor;
        }

        private static int greatestDivisor(int a, int b) {
            int big = a;
            int small = b;
            // an int's remainders come to 0 within 46 turns
            for (int turn = 0; turn < 64 && small != 0; turn++) {
                int left = big % small;
                big = small;
                small = left;
            }
            return big;
        }
    }

    /** A row of ints; below 0 its size says that it is missing. */
    private static final class Row {
        int size = MISSING;
        final int[] places = new int[LENGTH];

        boolean isMissing() {
            return size < 0;
        }

        boolean has(int i) {
            return i >= 0 && i < size;
        }

        boolean holds(int from, int n) {
            return from >= 0 && from <= size && n >= 0 && n <= size - from;
        }

        int placeAt(int i) {
            return has(i) ? places[i] : 0;
        }

        void set(int i, int v) {
            if (has(i)) {
                places[i] = v;
            }
        }

        void renew(int n) {
            size = Math.max(0, Math.min(LENGTH, n));
            for (int i = 0; i < size; i++) {
                places[i] = 0;
            }
        }

        void lose() {
            size = MISSING;
        }

        void take(int[] from, int n) {
            renew(Math.min(n, from.length));
            System.arraycopy(from, 0, places, 0, size);
        }

        long sum() {
            long all = 0;
            for (int i = 0; i < size; i++) {
                all += places[i];
            }
            return all;
        }

        boolean allWithin(int least, int most) {
            for (int i = 0; i < size; i++) {
                if (!isWithin(places[i], least, most)) {
                    return false;
                }
            }
            return true;
        }
    }

    /** A row of bytes, and how it reads as a BARGE or as a RITE. */
    private static final class Text {
        private static final int BLANK = 32;
        private static final int LETTER_DUE = 0, OUT_DUE = 1, WEIGHT_DUE = 2, KIN_DUE = 3;

        int size = MISSING;
        final byte[] bytes = new byte[LENGTH];

        boolean isMissing() {
            return size < 0;
        }

        boolean has(int i) {
            return i >= 0 && i < size;
        }

        int byteAt(int i) {
            return has(i) ? bytes[i] : BLANK;
        }

        void renew(int n) {
            size = Math.max(0, Math.min(LENGTH, n));
            for (int i = 0; i < size; i++) {
                bytes[i] = BLANK;
            }
        }

        int faultAsBarge() {
            int benches = 0;
            int guests = 0;
            int due = LETTER_DUE;
            for (int i = 0; i < size; i++) {
                int c = byteAt(i);
                if (due != LETTER_DUE) {
                    if (!isFigureDue(c, due)) {
                        return i;
                    }
                    due = due == WEIGHT_DUE ? KIN_DUE : LETTER_DUE;
                } else if (isBenchLetter(c)) {
                    if (guests > 0 || benches >= MOST_BENCHES) {
                        return i;
                    }
                    benches++;
                    due = c == 'm' ? LETTER_DUE : OUT_DUE;
                } else if (kindByLetter(c) != NONE) {
                    if (benches == 0 || guests >= MOST_GUESTS) {
                        return i;
                    }
                    guests++;
                    due = WEIGHT_DUE;
                } else if (c != BLANK) {
                    return i;
                }
            }
            return benches == 0 || due != LETTER_DUE ? size : NONE;
        }

        int faultAsRite() {
            int minutes = 0;
            for (int i = 0; i < size; i++) {
                int c = byteAt(i);
                if (postureByLetter(c) != NONE) {
                    if (minutes >= MOST_MINUTES) {
                        return i;
                    }
                    minutes++;
                } else if (c != BLANK) {
                    return i;
                }
            }
            return minutes == 0 ? size : NONE;
        }

        /** Only for a TEXT without a FAULT: a letter then always has its figures behind it. */
        void fillBarge(Barge barge) {
            for (int i = 0; i < size; i++) {
                int c = byteAt(i);
                if (c == 'm') {
                    barge.addBench(0);
                } else if (c == 'l') {
                    barge.addBench(-figureAt(i + 1));
                } else if (c == 'r') {
                    barge.addBench(figureAt(i + 1));
                } else if (kindByLetter(c) != NONE) {
                    barge.addGuest(kindByLetter(c), figureAt(i + 1), figureAt(i + 2));
                }
            }
        }

        /** Only for a TEXT without a FAULT. */
        void fillRite(Rite rite) {
            for (int i = 0; i < size; i++) {
                int posture = postureByLetter(byteAt(i));
                if (posture != NONE) {
                    rite.add(posture);
                }
            }
        }

        private int figureAt(int i) {
            return byteAt(i) - '0';
        }

        private static boolean isFigureDue(int c, int due) {
            return due == KIN_DUE ? isWithin(c, '0', '1') : isWithin(c, '1', '9');
        }

        private static boolean isBenchLetter(int c) {
            return c == 'l' || c == 'r' || c == 'm';
        }

        private static int kindByLetter(int c) {
            switch (c) {
                case 'g':
                    return 0;
                case 'a':
                    return AUNT;
                case 'u':
                    return UNCLE;
                case 'c':
                    return CHILD;
                case 'h':
                    return CHOIR;
                case 'k':
                    return COUSIN;
                default:
                    return NONE;
            }
        }

        private static int postureByLetter(int c) {
            switch (c) {
                case 's':
                    return SITTING;
                case 't':
                    return STANDING;
                case 'k':
                    return KNEELING;
                default:
                    return NONE;
            }
        }
    }

    /** The MINUTES of a wedding; before any RITE is told there is one of SITTING. */
    private static final class Rite {
        int minutes = 1;
        private final int[] postures = new int[MOST_MINUTES];
        private int postureSet = 1 << SITTING;

        void clear() {
            minutes = 0;
            postureSet = 0;
        }

        void add(int posture) {
            if (minutes < MOST_MINUTES) {
                postures[minutes] = posture;
                postureSet |= 1 << posture;
                minutes++;
            }
        }

        int postureIn(int minute) {
            return minute >= 0 && minute < minutes ? postures[minute] : SITTING;
        }

        boolean hasPosture(int posture) {
            return (postureSet & 1 << posture) != 0;
        }
    }

    /** BENCHES, GUESTS, who sits where, and how it lists by that. */
    private static final class Barge {
        private static final int[] WEIGHT_TIMES = {1, 1, 2, 1, 1, 2};
        private static final int[] STANDS_FARTHER = {0, 1, 0, 0, 2, 0};
        private static final int[] KNEELS_NEARER = {0, 0, 1, 0, 0, 2};
        /** The KIND that a KIND is one of. */
        private static final int[] KIND_ABOVE = {0, 0, 0, 0, 1, 2};

        int benches = 0;
        int guests = 0;
        int limit = 0;
        int rain = 0;
        final Quarrels quarrels = new Quarrels();
        private final int[] xs = new int[MOST_BENCHES];
        private final int[] whoSits = new int[MOST_BENCHES];
        private final int[] kinds = new int[MOST_GUESTS];
        private final int[] weights = new int[MOST_GUESTS];
        private final int[] kins = new int[MOST_GUESTS];
        private final int[] sitsOn = new int[MOST_GUESTS];
        /** Reckoned once for each BARGE, as each look at THE LIST asks for them. */
        private final int[] moments = new int[MOST_GUESTS * MOST_BENCHES * POSTURES];
        private int seatTakers = 0;

        void clear() {
            benches = 0;
            guests = 0;
            seatTakers = 0;
            quarrels.cutTo(0);
        }

        void addBench(int x) {
            if (benches < MOST_BENCHES) {
                xs[benches] = x;
                whoSits[benches] = 0;
                benches++;
            }
        }

        /** Behind all BENCHES, as MOMENTS are reckoned for those that are there. */
        void addGuest(int kind, int weight, int kin) {
            if (guests >= MOST_GUESTS) {
                return;
            }
            int g = guests;
            guests++;
            kinds[g] = kind;
            weights[g] = weight;
            kins[g] = kin;
            sitsOn[g] = NONE;
            if (kind != CHILD) {
                seatTakers |= 1 << g;
            }
            for (int b = 0; b < benches; b++) {
                for (int posture = 0; posture < POSTURES; posture++) {
                    int out = farOut(kind, xs[b], posture);
                    moments[momentPlace(g, b, posture)] = weighs(g) * (xs[b] < 0 ? -out : out);
                }
            }
        }

        static int farOut(int kind, int x, int posture) {
            int out = Math.abs(x);
            if (out == 0 || posture == SITTING) {
                return out;
            }
            if (posture == STANDING) {
                return out + ofKind(STANDS_FARTHER, kind);
            }
            return Math.max(0, out - ofKind(KNEELS_NEARER, kind));
        }

        private static int ofKind(int[] table, int kind) {
            return kind >= 0 && kind < table.length ? table[kind] : 0;
        }

        private static int momentPlace(int g, int b, int posture) {
            return (g * MOST_BENCHES + b) * POSTURES + posture;
        }

        boolean isBench(int b) {
            return b >= 0 && b < benches;
        }

        boolean isGuest(int g) {
            return g >= 0 && g < guests;
        }

        /** 0 for NONE, too. */
        int xOf(int b) {
            return isBench(b) ? xs[b] : 0;
        }

        int whoOn(int b) {
            return isBench(b) ? whoSits[b] : 0;
        }

        int kindOf(int g) {
            return isGuest(g) ? kinds[g] : 0;
        }

        int weightOf(int g) {
            return isGuest(g) ? weights[g] : 0;
        }

        int kinOf(int g) {
            return isGuest(g) ? kins[g] : 0;
        }

        int benchOf(int g) {
            return isGuest(g) ? sitsOn[g] : NONE;
        }

        int weighs(int g) {
            return weightOf(g) * ofKind(WEIGHT_TIMES, kindOf(g));
        }

        boolean isOf(int g, int kind) {
            return kindOf(g) == kind || ofKind(KIND_ABOVE, kindOf(g)) == kind;
        }

        /** 0 for one who sits on no BENCH. */
        int momentOf(int g, int b, int posture) {
            boolean there = isGuest(g) && isBench(b) && isPosture(posture);
            return there ? moments[momentPlace(g, b, posture)] : 0;
        }

        int everybody() {
            return (1 << guests) - 1;
        }

        int seatedSet() {
            int set = 0;
            for (int b = 0; b < benches; b++) {
                set |= whoSits[b];
            }
            return set;
        }

        int seatedCount() {
            return Integer.bitCount(seatedSet());
        }

        int kinSet(int kin) {
            int set = 0;
            for (int g = 0; g < guests; g++) {
                if (kins[g] == kin) {
                    set |= 1 << g;
                }
            }
            return set;
        }

        int howManyOf(int kind) {
            int n = 0;
            for (int g = 0; g < guests; g++) {
                n += isOf(g, kind) ? 1 : 0;
            }
            return n;
        }

        int weighAll(int set) {
            int all = 0;
            for (int g = 0; g < guests; g++) {
                if ((set & 1 << g) != 0) {
                    all += weighs(g);
                }
            }
            return all;
        }

        int seatsFor(int g) {
            return kindOf(g) == CHILD ? 0 : 1;
        }

        int seatsTaken(int b) {
            return Integer.bitCount(whoOn(b) & seatTakers);
        }

        int dryListIn(int posture) {
            int list = 0;
            for (int g = 0; g < guests; g++) {
                list += momentOf(g, sitsOn[g], posture);
            }
            return list;
        }

        int listIn(int posture) {
            return dryListIn(posture) + rain;
        }

        boolean isLevel(int list) {
            return Math.abs(list) <= limit;
        }

        /** Whether a GUEST who sits on another BENCH, or on none, finds a SEAT and no QUARREL there. */
        boolean mayTake(int g, int b) {
            if (seatsTaken(b) + seatsFor(g) > SEATS) {
                return false;
            }
            int near = whoOn(b - 1) | whoOn(b) | whoOn(b + 1);
            return (near & quarrels.foesOf(g)) == 0;
        }

        /** Asks nothing; NONE as the BENCH lets the GUEST rise. */
        void place(int g, int b) {
            if (!isGuest(g)) {
                return;
            }
            int was = sitsOn[g];
            if (isBench(was)) {
                whoSits[was] &= ~(1 << g);
            }
            sitsOn[g] = isBench(b) ? b : NONE;
            if (isBench(b)) {
                whoSits[b] |= 1 << g;
            }
        }

        /** Asks nothing. */
        void swap(int g, int h) {
            int was = benchOf(g);
            place(g, benchOf(h));
            place(h, was);
        }

        /** Two change BENCHES, if they may. */
        boolean trade(int g, int h) {
            int b = benchOf(g);
            int c = benchOf(h);
            if (b == NONE || c == NONE || b == c) {
                return false;
            }
            place(h, NONE);
            boolean may = mayTake(g, c);
            if (may) {
                place(g, c);
                may = mayTake(h, b);
            }
            place(g, may ? c : b);
            place(h, may ? b : c);
            return may;
        }
    }

    /** Who may not sit near whom. */
    private static final class Quarrels {
        int size = 0;
        private final int[] ones = new int[MOST_QUARRELS];
        private final int[] others = new int[MOST_QUARRELS];
        private final int[] foes = new int[MOST_GUESTS];

        void add(int g, int h) {
            if (size < MOST_QUARRELS) {
                ones[size] = g;
                others[size] = h;
                size++;
                noteFoes(g, h);
            }
        }

        void cutTo(int n) {
            size = Math.max(0, Math.min(size, n));
            for (int g = 0; g < MOST_GUESTS; g++) {
                foes[g] = 0;
            }
            for (int i = 0; i < size; i++) {
                noteFoes(ones[i], others[i]);
            }
        }

        private void noteFoes(int g, int h) {
            if (isWithin(g, 0, MOST_GUESTS - 1) && isWithin(h, 0, MOST_GUESTS - 1)) {
                foes[g] |= 1 << h;
                foes[h] |= 1 << g;
            }
        }

        int oneOf(int n) {
            return n >= 0 && n < size ? ones[n] : NONE;
        }

        int otherOf(int n) {
            return n >= 0 && n < size ? others[n] : NONE;
        }

        int foesOf(int g) {
            return g >= 0 && g < MOST_GUESTS ? foes[g] : 0;
        }
    }

    /** The DEEDS kept in mind, the first of all ahead. */
    private static final class Deeds {
        int size = 0;
        private final int[] sorts = new int[MOST_DEEDS];
        private final int[] guests = new int[MOST_DEEDS];
        /** The BENCH on which the GUEST sat (perhaps NONE); of a change() the other GUEST. */
        private final int[] others = new int[MOST_DEEDS];

        void remember(int sort, int g, int other) {
            if (size >= MOST_DEEDS) {
                forgetFirst();
            }
            if (size < MOST_DEEDS) {
                sorts[size] = sort;
                guests[size] = g;
                others[size] = other;
                size++;
            }
        }

        private void forgetFirst() {
            for (int i = 1; i < MOST_DEEDS; i++) {
                sorts[i - 1] = sorts[i];
                guests[i - 1] = guests[i];
                others[i - 1] = others[i];
            }
            size = MOST_DEEDS - 1;
        }

        void forgetLast() {
            size = Math.max(0, size - 1);
        }

        void forgetAll() {
            size = 0;
        }

        int lastSort() {
            return size > 0 && size <= MOST_DEEDS ? sorts[size - 1] : SEAT;
        }

        int lastGuest() {
            return size > 0 && size <= MOST_DEEDS ? guests[size - 1] : NONE;
        }

        int lastOther() {
            return size > 0 && size <= MOST_DEEDS ? others[size - 1] : NONE;
        }
    }

    /** Who sat where when a BARGE was kept. */
    private static final class Kept {
        private final boolean[] there = new boolean[KEPT_PLACES];
        private final int[] sitsOn = new int[KEPT_PLACES * MOST_GUESTS];

        boolean has(int k) {
            return k >= 0 && k < KEPT_PLACES && there[k];
        }

        int benchOf(int k, int g) {
            return has(k) && g >= 0 && g < MOST_GUESTS ? sitsOn[k * MOST_GUESTS + g] : NONE;
        }

        void forgetAll() {
            for (int k = 0; k < KEPT_PLACES; k++) {
                there[k] = false;
            }
        }

        void take(int k, Barge barge) {
            if (!isWithin(k, 0, KEPT_PLACES - 1)) {
                return;
            }
            there[k] = true;
            for (int g = 0; g < MOST_GUESTS; g++) {
                sitsOn[k * MOST_GUESTS + g] = barge.benchOf(g);
            }
        }

        void restore(int k, Barge barge) {
            for (int g = 0; g < barge.guests; g++) {
                barge.place(g, benchOf(k, g));
            }
        }
    }

    /**
     * Goes through all SEATINGS in their order and keeps what best(), ways(), sure(), where() tell. It
     * works on rows of its own: there may be 32768 SEATINGS, and the BARGE stays as it is meanwhile.
     */
    private static final class Seatings {
        /** Of all SEATINGS the least WORST, and who sits where by it, those seated already, too. */
        int leastWorst = NONE;
        final int[] leastSits = new int[MOST_GUESTS];
        int all = 0;
        int level = 0;
        private final Barge barge;
        private final Rite rite;
        private final int[] coming = new int[MOST_GUESTS];
        private int comers = 0;
        private final int[] sitsOn = new int[MOST_GUESTS];
        private final int[] levelOn = new int[MOST_GUESTS];
        private final int[] freeSeats = new int[MOST_BENCHES];
        /** Who sits on BENCH b stands at b + 1, so that the outermost BENCHES have neighbours, too. */
        private final int[] whoSits = new int[MOST_BENCHES + 2];
        private final int[] sittingMoments = new int[MOST_GUESTS * MOST_BENCHES];
        private final int[] standingMoments = new int[MOST_GUESTS * MOST_BENCHES];
        private final int[] kneelingMoments = new int[MOST_GUESTS * MOST_BENCHES];

        Seatings(Barge barge, Rite rite) {
            this.barge = barge;
            this.rite = rite;
        }

        /** The BENCHES (bits) of a GUEST not seated yet in SEATINGS that are LEVEL THROUGH. */
        int levelBenches(int g) {
            return g >= 0 && g < MOST_GUESTS ? levelOn[g] : 0;
        }

        void search() {
            all = 0;
            level = 0;
            leastWorst = NONE;
            comers = 0;
            for (int b = 0; b < MOST_BENCHES; b++) {
                whoSits[b + 1] = barge.whoOn(b);
                freeSeats[b] = SEATS - barge.seatsTaken(b);
            }
            for (int g = 0; g < MOST_GUESTS; g++) {
                sitsOn[g] = barge.benchOf(g);
                levelOn[g] = 0;
                if (barge.isGuest(g) && sitsOn[g] == NONE) {
                    coming[comers] = g;
                    comers++;
                    reckonMoments(g);
                }
            }
            tryComer(0, startIn(SITTING), startIn(STANDING), startIn(KNEELING));
        }

        /** A POSTURE that the RITE hasn't counts as 0 throughout: so it never is the WORST. */
        private int startIn(int posture) {
            return rite.hasPosture(posture) ? barge.listIn(posture) : 0;
        }

        private int momentIn(int g, int b, int posture) {
            return rite.hasPosture(posture) ? barge.momentOf(g, b, posture) : 0;
        }

        private void reckonMoments(int g) {
            for (int b = 0; b < MOST_BENCHES; b++) {
                int place = g * MOST_BENCHES + b;
                sittingMoments[place] = momentIn(g, b, SITTING);
                standingMoments[place] = momentIn(g, b, STANDING);
                kneelingMoments[place] = momentIn(g, b, KNEELING);
            }
        }

        /** The three lists are those of all who sit by now. */
        private void tryComer(int i, int sitting, int standing, int kneeling) {
            if (i >= comers || i >= MOST_GUESTS) {
                noteSeating(Math.max(Math.abs(sitting), Math.max(Math.abs(standing), Math.abs(kneeling))));
                return;
            }
            int foes = barge.quarrels.foesOf(coming[i]);
            int seats = barge.seatsFor(coming[i]);
            for (int b = 0; b < barge.benches; b++) {
                int near = whoSits[b] | whoSits[b + 1] | whoSits[b + 2];
                if (freeSeats[b] >= seats && (near & foes) == 0) {
                    freeSeats[b] -= seats;
                    seatComer(i, b, sitting, standing, kneeling);
                    freeSeats[b] += seats;
                }
            }
        }

        private void seatComer(int i, int b, int sitting, int standing, int kneeling) {
            int g = coming[i];
            int place = g * MOST_BENCHES + b;
            sitsOn[g] = b;
            whoSits[b + 1] |= 1 << g;
            tryComer(i + 1, sitting + sittingMoments[place], standing + standingMoments[place],
                    kneeling + kneelingMoments[place]);
            whoSits[b + 1] &= ~(1 << g);
        }

        private void noteSeating(int worst) {
            all++;
            if (barge.isLevel(worst)) {
                level++;
                for (int i = 0; i < comers; i++) {
                    int g = coming[i];
                    levelOn[g] |= 1 << sitsOn[g];
                }
            }
            if (leastWorst == NONE || worst < leastWorst) {
                leastWorst = worst;
                System.arraycopy(sitsOn, 0, leastSits, 0, MOST_GUESTS);
            }
        }
    }

    /** In which orders all who are seated can leave, by the sets of those who are still there. */
    private static final class Leaving {
        private static final int SETS = 1 << MOST_GUESTS;

        private final Barge barge;
        private final boolean[] isLevelSet = new boolean[SETS];
        /** From such a set on all can leave. */
        private final boolean[] canEmpty = new boolean[SETS];
        /** All who are seated can come down to such a set. */
        private final boolean[] reached = new boolean[SETS];
        private final int[] order = new int[MOST_GUESTS];
        private int crew = 0;

        Leaving(Barge barge) {
            this.barge = barge;
        }

        void plan() {
            crew = barge.seatedSet() & SETS - 1;
            for (int set = 0; set <= crew; set++) {
                isLevelSet[set] = barge.isLevel(listOf(set));
                canEmpty[set] = set == 0 || whoMayLeave(set) != 0;
                reached[set] = set == crew;
            }
            for (int set = crew; set > 0; set--) {
                if (reached[set]) {
                    reachFrom(set);
                }
            }
        }

        private int listOf(int set) {
            int list = barge.rain;
            for (int g = 0; g < MOST_GUESTS; g++) {
                if ((set & 1 << g) != 0) {
                    list += barge.momentOf(g, barge.benchOf(g), SITTING);
                }
            }
            return list;
        }

        /** Who of a set may leave it so that the rest can go on and leave as well. */
        private int whoMayLeave(int set) {
            int who = 0;
            for (int g = 0; g < MOST_GUESTS; g++) {
                int rest = set & ~(1 << g);
                if (rest != set && isLevelSet[rest] && canEmpty[rest]) {
                    who |= 1 << g;
                }
            }
            return who;
        }

        private void reachFrom(int set) {
            for (int g = 0; g < MOST_GUESTS; g++) {
                int rest = set & ~(1 << g);
                if (rest != set && isLevelSet[rest]) {
                    reached[rest] = true;
                }
            }
        }

        boolean allCanLeave() {
            return canEmpty[crew];
        }

        int firsts() {
            return whoMayLeave(crew);
        }

        int lasts() {
            int who = 0;
            for (int g = 0; g < MOST_GUESTS; g++) {
                int alone = 1 << g;
                if ((crew & alone) != 0 && reached[alone] && isLevelSet[0]) {
                    who |= alone;
                }
            }
            return who;
        }

        int[] firstOrder() {
            int left = crew;
            for (int step = 0; step < MOST_GUESTS && left != 0; step++) {
                int who = whoMayLeave(left);
                int first = leastOf(who);
                order[step] = first;
                left &= ~(1 << first);
            }
            return order;
        }

        private static int leastOf(int set) {
            for (int g = 0; g < MOST_GUESTS; g++) {
                if ((set & 1 << g) != 0) {
                    return g;
                }
            }
            return 0;
        }
    }

    /** Which cousins are invited, and where they sit, so that it costs least and is LEVEL. */
    private static final class Invitation {
        int invited = 0;
        int least = NONE;
        final int[] cheapest = new int[MOST_INVITED];
        private final Barge barge;
        private final int[] tried = new int[MOST_INVITED];
        /** How many of those tried sit on each BENCH; 0 again behind each search. */
        private final int[] newcomers = new int[MOST_BENCHES];
        private final int[] weights = new int[MOST_INVITED];
        private final int[] costs = new int[MOST_INVITED];

        Invitation(Barge barge) {
            this.barge = barge;
        }

        /** Both ROWS are of one size, MOST_INVITED at most. */
        void search(Row weightRow, Row costRow) {
            invited = Math.min(weightRow.size, MOST_INVITED);
            least = NONE;
            for (int i = 0; i < invited; i++) {
                weights[i] = weightRow.placeAt(i);
                costs[i] = costRow.placeAt(i);
            }
            tryCousin(0, barge.listIn(SITTING), 0);
        }

        private void tryCousin(int i, int list, int cost) {
            if (least != NONE && cost >= least) {
                return;
            }
            if (i >= invited || i >= MOST_INVITED) {
                if (barge.isLevel(list)) {
                    noteCheaper(cost);
                }
                return;
            }
            for (int b = 0; b < barge.benches; b++) {
                if (barge.seatsTaken(b) + newcomers[b] < SEATS) {
                    seatCousin(i, b, list, cost);
                }
            }
            tried[i] = NONE;
            tryCousin(i + 1, list, cost);
        }

        private void seatCousin(int i, int b, int list, int cost) {
            tried[i] = b;
            newcomers[b]++;
            tryCousin(i + 1, list + weights[i] * barge.xOf(b), cost + costs[i]);
            newcomers[b]--;
        }

        private void noteCheaper(int cost) {
            least = cost;
            for (int i = 0; i < invited; i++) {
                cheapest[i] = tried[i];
            }
        }
    }
}
