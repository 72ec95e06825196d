import java.math.BigInteger;
import java.util.ArrayDeque;
import java.util.ArrayList;
import java.util.Arrays;
import java.util.Deque;
import java.util.List;
import java.util.regex.Matcher;
import java.util.regex.Pattern;

/**
 * The document once more, written as plainly as can be and in another way than the class: every search
 * goes through all that there is, every DEED keeps the whole state ahead of it. Slow, and only for tests.
 */
final class Model {
    static final int BAD = -1, FULL = -2, FINDING = -3, STATE = -4, SPENT = -6, NONE = -9;
    private static final String LETTERS = "gauchk";

    private static final class Guest {
        int kind;
        int weight;
        int kin;
        int bench = NONE;

        boolean isAunt() {
            return kind == 1 || kind == 4;
        }

        boolean isUncle() {
            return kind == 2 || kind == 5;
        }

        int weighs() {
            return isUncle() ? 2 * weight : weight;
        }

        int moment(int x, int posture) {
            int out = x < 0 ? -x : x;
            if (x != 0 && posture == 1 && isAunt()) {
                out += kind == 4 ? 2 : 1;
            }
            if (x != 0 && posture == 2 && isUncle()) {
                out = Math.max(0, out - (kind == 5 ? 2 : 1));
            }
            return weighs() * (x < 0 ? -out : out);
        }
    }

    private final int[][] rows = new int[6][];
    private final byte[][] texts = new byte[4][];
    private int[] xs = {};
    private Guest[] guests = {};
    private int[] minutes = {0};
    private int limit = 0;
    private int rain = 0;
    private final List<int[]> quarrels = new ArrayList<>();
    /** Of each DEED its sort, then where everybody sat ahead of it. */
    private final Deque<int[]> deeds = new ArrayDeque<>();
    private final int[][] kept = new int[3][];
    private int asked = 0;
    private long upper = 0;
    private long lower = 1;
    private int finding = 0;
    private final int[] findings = new int[6];

    private int found(int f) {
        finding = f;
        findings[f]++;
        return FINDING;
    }

    private int tell(int v) {
        asked = v;
        return 1;
    }

    private int share(int part, int whole) {
        if (part == 0) {
            upper = 0;
            lower = 1;
        } else {
            BigInteger by = BigInteger.valueOf(part).gcd(BigInteger.valueOf(whole));
            upper = part / by.intValue();
            lower = whole / by.intValue();
        }
        return part;
    }

    private boolean noRow(int r) {
        return r < 0 || r > 5;
    }

    private boolean noText(int t) {
        return t < 0 || t > 3;
    }

    private boolean noGuest(int g) {
        return g < 0 || g >= guests.length;
    }

    private boolean noBench(int b) {
        return b < 0 || b >= xs.length;
    }

    int row(int r, int n) {
        if (noRow(r) || n > 60) {
            return BAD;
        }
        if (n < 0) {
            return found(5);
        }
        rows[r] = new int[n];
        return n;
    }

    int lay(int r, int i, int v) {
        int answer = at(r, i);
        if (answer == 1) {
            rows[r][i] = v;
        }
        return answer;
    }

    int at(int r, int i) {
        if (noRow(r)) {
            return BAD;
        }
        if (rows[r] == null) {
            return found(1);
        }
        if (i < 0 || i >= rows[r].length) {
            return found(2);
        }
        return tell(rows[r][i]);
    }

    int tear(int r) {
        if (noRow(r)) {
            return BAD;
        }
        if (rows[r] == null) {
            return found(1);
        }
        rows[r] = null;
        return 1;
    }

    int copy(int r, int i, int to, int j, int n) {
        if (noRow(r) || noRow(to)) {
            return BAD;
        }
        if (n < 0) {
            return found(5);
        }
        if (rows[r] == null || rows[to] == null) {
            return found(1);
        }
        if (i < 0 || j < 0 || (long) i + n > rows[r].length || (long) j + n > rows[to].length) {
            return found(2);
        }
        int[] taken = rows[r].clone();
        for (int k = 0; k < n; k++) {
            rows[to][j + k] = taken[i + k];
        }
        return 1;
    }

    int mean(int r) {
        if (noRow(r)) {
            return BAD;
        }
        if (rows[r] == null) {
            return found(1);
        }
        if (rows[r].length == 0) {
            return found(4);
        }
        return tell((int) (Arrays.stream(rows[r]).asLongStream().sum() / rows[r].length));
    }

    int text(int t, int n) {
        if (noText(t) || n > 60) {
            return BAD;
        }
        if (n < 0) {
            return found(5);
        }
        texts[t] = new byte[n];
        Arrays.fill(texts[t], (byte) 32);
        return n;
    }

    int put(int t, int i, int v) {
        if (noText(t)) {
            return BAD;
        }
        if (texts[t] == null) {
            return found(1);
        }
        if (i < 0 || i >= texts[t].length) {
            return found(2);
        }
        int was = texts[t][i];
        texts[t][i] = (byte) v;
        return was + 1000;
    }

    private String signs(int t) {
        StringBuilder signs = new StringBuilder();
        for (byte b : texts[t]) {
            signs.append((char) (b & 255));
        }
        return signs.toString();
    }

    private static final Pattern BARGE =
            Pattern.compile(" *(?:(?:[lr][1-9]|m) *){1,8}(?:[gauchk][1-9][01] *){0,7}");
    private static final Pattern RITE = Pattern.compile(" *(?:[stk] *){1,40}");

    /** The first place at which the signs up to and with it are the beginning of nothing that is right. */
    private static int faultOf(String signs, Pattern pattern) {
        for (int i = 0; i < signs.length(); i++) {
            Matcher begun = pattern.matcher(signs.substring(0, i + 1));
            if (!begun.matches() && !begun.hitEnd()) {
                return i;
            }
        }
        return pattern.matcher(signs).matches() ? NONE : signs.length();
    }

    int fault(int t, boolean rite) {
        if (noText(t)) {
            return BAD;
        }
        return texts[t] == null ? found(1) : faultOf(signs(t), rite ? RITE : BARGE);
    }

    int barge(int t) {
        int fault = fault(t, false);
        if (fault == BAD || fault == FINDING) {
            return fault;
        }
        if (fault != NONE) {
            return STATE;
        }
        List<Integer> outs = new ArrayList<>();
        List<Guest> all = new ArrayList<>();
        Matcher items = Pattern.compile("([lr])([1-9])|(m)|([gauchk])([1-9])([01])").matcher(signs(t));
        while (items.find()) {
            if (items.group(4) != null) {
                Guest g = new Guest();
                g.kind = LETTERS.indexOf(items.group(4));
                g.weight = Integer.parseInt(items.group(5));
                g.kin = Integer.parseInt(items.group(6));
                all.add(g);
            } else if (items.group(3) != null) {
                outs.add(0);
            } else {
                int out = Integer.parseInt(items.group(2));
                outs.add(items.group(1).equals("l") ? -out : out);
            }
        }
        xs = outs.stream().mapToInt(v -> v).toArray();
        guests = all.toArray(new Guest[0]);
        quarrels.clear();
        deeds.clear();
        Arrays.fill(kept, null);
        return xs.length;
    }

    int rite(int t) {
        int fault = fault(t, true);
        if (fault == BAD || fault == FINDING) {
            return fault;
        }
        if (fault != NONE) {
            return STATE;
        }
        minutes = signs(t).replace(" ", "").chars().map(c -> "stk".indexOf(c)).toArray();
        return minutes.length;
    }

    private int benchTells(int b, int what) {
        int seats = 0;
        int weight = 0;
        int who = 0;
        for (int g = 0; g < guests.length; g++) {
            if (guests[g].bench == b) {
                seats += guests[g].kind == 3 ? 0 : 1;
                weight += guests[g].weighs();
                who |= 1 << g;
            }
        }
        return new int[] {xs[b], seats, weight, who}[what];
    }

    int bench(int b, int what) {
        return noBench(b) || what < 0 || what > 3 ? BAD : tell(benchTells(b, what));
    }

    private int guestTells(int g, int what) {
        Guest it = guests[g];
        return new int[] {it.kind, it.weight, it.kin, it.bench, it.weighs()}[what];
    }

    int guest(int g, int what) {
        return noGuest(g) || what < 0 || what > 4 ? BAD : tell(guestTells(g, what));
    }

    int mark(int g, int kind) {
        if (noGuest(g) || kind < 1 || kind > 5) {
            return BAD;
        }
        Guest it = guests[g];
        boolean fits = kind == 1 ? it.isAunt() : kind == 2 ? it.isUncle() : it.kind == kind;
        if (!fits) {
            return found(3);
        }
        boolean seated = it.bench != NONE;
        int x = seated ? xs[it.bench] : 0;
        switch (kind) {
            case 1:
                return it.moment(x, 1) - it.moment(x, 0);
            case 2:
                return it.moment(x, 2) - it.moment(x, 0);
            case 3:
                return seated ? Integer.bitCount(benchTells(it.bench, 3)) - 1 : NONE;
            case 4:
                return x == 0 ? 0 : Math.abs(x) + 2;
            default:
                return (int) Arrays.stream(guests)
                        .filter(o -> o != it && o.kin == it.kin && o.bench != NONE).count();
        }
    }

    int limit(int v) {
        if (v < 0 || v > 999) {
            return BAD;
        }
        int was = limit;
        limit = v;
        return was;
    }

    int rain(int v) {
        if (v < -200 || v > 200) {
            return BAD;
        }
        tell(rain);
        rain = v;
        return 1;
    }

    int quarrel(int g, int h) {
        if (noGuest(g) || noGuest(h) || g == h) {
            return BAD;
        }
        if (quarrels.size() == 8) {
            return FULL;
        }
        quarrels.add(new int[] {g, h});
        return quarrels.size() - 1;
    }

    int peace(int n) {
        if (n < 0 || n > quarrels.size()) {
            return BAD;
        }
        int over = 0;
        while (quarrels.size() > n) {
            quarrels.remove(quarrels.size() - 1);
            over++;
        }
        return over;
    }

    private int[] sits() {
        return Arrays.stream(guests).mapToInt(g -> g.bench).toArray();
    }

    private void sit(int[] sits, int from) {
        for (int g = 0; g < guests.length; g++) {
            guests[g].bench = sits[from + g];
        }
    }

    /** Whether some BENCH on which one of a set comes to sit has too many, or one of the set a QUARREL. */
    private boolean clashes(int[] sits, int set) {
        for (int g = 0; g < guests.length; g++) {
            if ((set >> g & 1) != 0) {
                int seats = 0;
                for (int h = 0; h < guests.length; h++) {
                    seats += sits[h] == sits[g] && guests[h].kind != 3 ? 1 : 0;
                }
                if (seats > 2) {
                    return true;
                }
            }
        }
        for (int[] q : quarrels) {
            boolean concerned = (set >> q[0] & 1) != 0 || (set >> q[1] & 1) != 0;
            if (concerned && isBroken(q, sits)) {
                return true;
            }
        }
        return false;
    }

    private static boolean isBroken(int[] q, int[] sits) {
        int b = sits[q[0]];
        int c = sits[q[1]];
        return b != NONE && c != NONE && Math.abs(b - c) < 2;
    }

    private void remember(int sort) {
        int[] deed = new int[guests.length + 1];
        deed[0] = sort;
        System.arraycopy(sits(), 0, deed, 1, guests.length);
        deeds.addLast(deed);
        if (deeds.size() > 60) {
            deeds.removeFirst();
        }
    }

    int seat(int g, int b) {
        if (noGuest(g) || noBench(b)) {
            return BAD;
        }
        int[] sits = sits();
        if (sits[g] == b) {
            return STATE;
        }
        sits[g] = b;
        if (clashes(sits, 1 << g)) {
            return STATE;
        }
        remember(0);
        sit(sits, 0);
        return b;
    }

    int rise(int g) {
        if (noGuest(g)) {
            return BAD;
        }
        int was = guests[g].bench;
        if (was == NONE) {
            return STATE;
        }
        remember(1);
        guests[g].bench = NONE;
        return was;
    }

    private int[] changed(int g, int h) {
        int[] sits = sits();
        if (sits[g] == NONE || sits[h] == NONE || sits[g] == sits[h]) {
            return null;
        }
        int b = sits[g];
        sits[g] = sits[h];
        sits[h] = b;
        return clashes(sits, 1 << g | 1 << h) ? null : sits;
    }

    int change(int g, int h) {
        if (noGuest(g) || noGuest(h) || g == h) {
            return BAD;
        }
        int[] sits = changed(g, h);
        if (sits == null) {
            return STATE;
        }
        remember(2);
        sit(sits, 0);
        return 1;
    }

    int undo() {
        if (deeds.isEmpty()) {
            return STATE;
        }
        int[] deed = deeds.removeLast();
        sit(deed, 1);
        return deed[0];
    }

    private int seated() {
        return (int) Arrays.stream(guests).filter(g -> g.bench != NONE).count();
    }

    int keep(int k) {
        if (k < 0 || k > 2) {
            return BAD;
        }
        if (xs.length == 0) {
            return STATE;
        }
        kept[k] = sits();
        return seated();
    }

    int on(int k) {
        if (k < 0 || k > 2) {
            return BAD;
        }
        if (kept[k] == null) {
            return found(1);
        }
        sit(kept[k], 0);
        deeds.clear();
        return seated();
    }

    private int listOf(int[] sits, int posture) {
        int list = rain;
        for (int g = 0; g < guests.length; g++) {
            list += sits[g] == NONE ? 0 : guests[g].moment(xs[sits[g]], posture);
        }
        return list;
    }

    private boolean level(int list) {
        return Math.abs(list) <= limit;
    }

    private int worstOf(int[] sits) {
        return Arrays.stream(minutes).map(p -> Math.abs(listOf(sits, p))).max().getAsInt();
    }

    int list(int posture) {
        if (posture < 0 || posture > 2) {
            return BAD;
        }
        tell(listOf(sits(), posture));
        return level(asked) ? 1 : 0;
    }

    int when() {
        for (int m = 0; m < minutes.length; m++) {
            if (!level(listOf(sits(), minutes[m]))) {
                tell(listOf(sits(), minutes[m]));
                return m;
            }
        }
        return NONE;
    }

    int minutes() {
        return share((int) Arrays.stream(minutes).filter(p -> level(listOf(sits(), p))).count(), minutes.length);
    }

    int worst() {
        int worst = worstOf(sits());
        for (int m = minutes.length - 1; m >= 0; m--) {
            if (Math.abs(listOf(sits(), minutes[m])) == worst) {
                tell(m);
            }
        }
        return worst;
    }

    int need() {
        int worst = worstOf(sits());
        return worst > 999 ? NONE : worst;
    }

    private int waiting() {
        return guests.length - seated();
    }

    /** All SEATINGS in their order: each number with as many figures as GUESTS wait is one try. */
    private List<int[]> seatings() {
        List<int[]> all = new ArrayList<>();
        int tries = 1;
        for (int i = 0; i < waiting(); i++) {
            tries *= xs.length;
        }
        for (int n = 0; n < tries; n++) {
            int[] sits = sits();
            int rest = n;
            int set = 0;
            for (int g = guests.length - 1; g >= 0; g--) {
                if (sits[g] == NONE) {
                    sits[g] = rest % xs.length;
                    rest /= xs.length;
                    set |= 1 << g;
                }
            }
            if (!clashes(sits, set)) {
                all.add(sits);
            }
        }
        return all;
    }

    private List<int[]> levelSeatings(List<int[]> all) {
        List<int[]> level = new ArrayList<>(all);
        level.removeIf(sits -> worstOf(sits) > limit);
        return level;
    }

    int best(int r) {
        if (noRow(r)) {
            return BAD;
        }
        if (xs.length == 0) {
            return STATE;
        }
        if (waiting() > 5) {
            return SPENT;
        }
        int[] least = null;
        for (int[] sits : seatings()) {
            if (least == null || worstOf(sits) < worstOf(least)) {
                least = sits;
            }
        }
        if (least == null) {
            return NONE;
        }
        rows[r] = least;
        return worstOf(least);
    }

    int ways() {
        if (xs.length == 0) {
            return STATE;
        }
        if (waiting() > 5) {
            return SPENT;
        }
        List<int[]> all = seatings();
        return share(levelSeatings(all).size(), all.size());
    }

    int sure() {
        if (xs.length == 0) {
            return STATE;
        }
        if (waiting() > 5) {
            return SPENT;
        }
        List<int[]> level = levelSeatings(seatings());
        int set = 0;
        for (int g = 0; g < guests.length; g++) {
            int who = g;
            boolean same = !level.isEmpty() && guests[g].bench == NONE
                    && level.stream().allMatch(sits -> sits[who] == level.get(0)[who]);
            set |= same ? 1 << g : 0;
        }
        return set;
    }

    int where(int g) {
        if (noGuest(g)) {
            return BAD;
        }
        if (guests[g].bench != NONE) {
            return STATE;
        }
        if (waiting() > 5) {
            return SPENT;
        }
        int bits = 0;
        for (int[] sits : levelSeatings(seatings())) {
            bits |= 1 << sits[g];
        }
        tell(bits);
        return Integer.bitCount(bits);
    }

    int aisle() {
        int pair = NONE;
        int least = Math.abs(listOf(sits(), 0));
        for (int two = 1; two < 100; two++) {
            int g = two / 10;
            int h = two % 10;
            int[] sits = g < h && !noGuest(h) ? changed(g, h) : null;
            if (sits != null && Math.abs(listOf(sits, 0)) < least) {
                least = Math.abs(listOf(sits, 0));
                pair = two;
            }
        }
        if (pair != NONE) {
            tell(least);
        }
        return pair;
    }

    private void orders(int[] sits, List<Integer> gone, List<int[]> all) {
        if (Arrays.stream(sits).allMatch(b -> b == NONE)) {
            all.add(gone.stream().mapToInt(v -> v).toArray());
            return;
        }
        for (int g = 0; g < guests.length; g++) {
            if (sits[g] != NONE) {
                int[] rest = sits.clone();
                rest[g] = NONE;
                if (level(listOf(rest, 0))) {
                    gone.add(g);
                    orders(rest, gone, all);
                    gone.remove(gone.size() - 1);
                }
            }
        }
    }

    private List<int[]> orders() {
        List<int[]> all = new ArrayList<>();
        orders(sits(), new ArrayList<>(), all);
        return all;
    }

    int leave(int r) {
        if (noRow(r)) {
            return BAD;
        }
        List<int[]> all = orders();
        if (all.isEmpty()) {
            return NONE;
        }
        rows[r] = all.get(0);
        return all.get(0).length;
    }

    int leavers() {
        int firsts = 0;
        int lasts = 0;
        for (int[] order : orders()) {
            if (order.length > 0) {
                firsts |= 1 << order[0];
                lasts |= 1 << order[order.length - 1];
            }
        }
        tell(lasts);
        return firsts;
    }

    int invite(int w, int costs, int to) {
        if (noRow(w) || noRow(costs) || noRow(to)) {
            return BAD;
        }
        if (xs.length == 0) {
            return STATE;
        }
        if (rows[w] == null || rows[costs] == null) {
            return found(1);
        }
        int n = rows[w].length;
        if (n > 4 || rows[costs].length != n) {
            return found(5);
        }
        if (Arrays.stream(rows[w]).anyMatch(v -> v < 1 || v > 9)
                || Arrays.stream(rows[costs]).anyMatch(v -> v < 0 || v > 99)) {
            return found(3);
        }
        int[] first = null;
        int least = Integer.MAX_VALUE;
        for (int t = 0; t < Math.round(Math.pow(xs.length + 1, n)); t++) {
            int[] benches = new int[n];
            int rest = t;
            for (int i = n - 1; i >= 0; i--) {
                benches[i] = rest % (xs.length + 1);
                rest /= xs.length + 1;
            }
            int cost = costOf(benches, rows[w], rows[costs]);
            if (cost >= 0 && cost < least) {
                least = cost;
                first = Arrays.stream(benches).map(b -> b == xs.length ? NONE : b).toArray();
            }
        }
        if (first == null) {
            return NONE;
        }
        rows[to] = first;
        return least;
    }

    /** Below 0, if it is not LEVEL so, or there are not SEATS enough. */
    private int costOf(int[] benches, int[] weights, int[] costs) {
        int cost = 0;
        int list = listOf(sits(), 0);
        int[] seats = new int[xs.length];
        for (int b = 0; b < xs.length; b++) {
            seats[b] = benchTells(b, 1);
        }
        for (int i = 0; i < benches.length; i++) {
            if (benches[i] < xs.length) {
                cost += costs[i];
                list += weights[i] * xs[benches[i]];
                seats[benches[i]]++;
                if (seats[benches[i]] > 2) {
                    return -1;
                }
            }
        }
        return level(list) ? cost : -1;
    }

    int far(int g, int posture) {
        if (noGuest(g) || posture < 0 || posture > 2) {
            return BAD;
        }
        for (int out = 9; out >= 0; out--) {
            for (int b = 0; b < xs.length; b++) {
                int[] sits = sits();
                sits[g] = b;
                if (Math.abs(xs[b]) == out && level(listOf(sits, posture))) {
                    tell(b);
                    return out;
                }
            }
        }
        return NONE;
    }

    int crossed() {
        int across = 0;
        int broken = 0;
        for (int[] q : quarrels) {
            int b = guests[q[0]].bench;
            int c = guests[q[1]].bench;
            if (b != NONE && c != NONE) {
                across += xs[b] < 0 && xs[c] > 0 || xs[b] > 0 && xs[c] < 0 ? 1 : 0;
            }
            broken += isBroken(q, sits()) ? 1 : 0;
        }
        tell(broken);
        return across;
    }

    private int apart(int set) {
        int more = 0;
        for (int g = 0; g < guests.length; g++) {
            more += (set >> g & 1) != 0 ? guests[g].weighs() : -guests[g].weighs();
        }
        return more;
    }

    int divorce() {
        for (int least = 0; ; least++) {
            for (int set = 0; set < 1 << guests.length; set++) {
                if (apart(set) == least) {
                    tell(set);
                    return least;
                }
            }
        }
    }

    int kin(int d) {
        if (d < 0 || d > 99) {
            return BAD;
        }
        int grooms = 0;
        for (int g = 0; g < guests.length; g++) {
            grooms |= guests[g].kin << g;
        }
        for (int n = 0; n <= guests.length; n++) {
            for (int set = 0; set < 1 << guests.length; set++) {
                if (Integer.bitCount(set) == n && Math.abs(apart(grooms ^ set)) <= d) {
                    tell(set);
                    return n;
                }
            }
        }
        return NONE;
    }

    int odds(int posture, int k) {
        if (posture < 0 || posture > 2 || k < 0 || k > 200) {
            return BAD;
        }
        int n = 0;
        for (int v = -k; v <= k; v++) {
            n += level(listOf(sits(), posture) - rain + v) ? 1 : 0;
        }
        return share(n, 2 * k + 1);
    }

    int storm(int seed) {
        if (seed < 1 || seed > 2147483646) {
            return BAD;
        }
        BigInteger lot = BigInteger.valueOf(seed);
        int now = rain;
        int much = 0;
        for (int posture : minutes) {
            lot = lot.multiply(BigInteger.valueOf(48271)).mod(BigInteger.valueOf(2147483647));
            now = Math.min(200, Math.max(-200, now + lot.mod(BigInteger.valueOf(7)).intValue() - 3));
            much += level(listOf(sits(), posture) - rain + now) ? 0 : 1;
        }
        tell(now);
        return much;
    }

    int asked() {
        return asked;
    }

    long upper() {
        return upper;
    }

    long lower() {
        return lower;
    }

    private int[] counts() {
        return new int[] {
            xs.length, guests.length, seated(), minutes.length,
            (int) Arrays.stream(guests).filter(Guest::isAunt).count(),
            (int) Arrays.stream(guests).filter(Guest::isUncle).count(),
            (int) Arrays.stream(rows).filter(r -> r != null).count(),
            (int) Arrays.stream(texts).filter(t -> t != null).count(),
            quarrels.size(), deeds.size()};
    }

    int count(int what) {
        return what < 0 || what > 9 ? BAD : counts()[what];
    }

    int finding() {
        return finding;
    }

    int findings(int f) {
        return f < 1 || f > 5 ? BAD : findings[f];
    }

    long digest() {
        List<Integer> all = new ArrayList<>();
        for (int n : counts()) {
            all.add(n);
        }
        all.add(limit);
        all.add(rain);
        for (int b = 0; b < xs.length; b++) {
            for (int what = 0; what < 4; what++) {
                all.add(benchTells(b, what));
            }
        }
        for (int g = 0; g < guests.length; g++) {
            for (int what = 0; what < 5; what++) {
                all.add(guestTells(g, what));
            }
        }
        Arrays.stream(minutes).forEach(all::add);
        for (int[] q : quarrels) {
            all.add(q[0]);
            all.add(q[1]);
        }
        for (int[] k : kept) {
            Arrays.stream(k == null ? new int[] {-1} : k).forEach(all::add);
        }
        for (int[] row : rows) {
            all.add(row == null ? -1 : row.length);
            Arrays.stream(row == null ? new int[0] : row).forEach(all::add);
        }
        for (byte[] text : texts) {
            all.add(text == null ? -1 : text.length);
            for (int i = 0; text != null && i < text.length; i++) {
                all.add((int) text[i]);
            }
        }
        long h = 17;
        for (int v : all) {
            h = 31 * h + v;
        }
        return h;
    }
}
