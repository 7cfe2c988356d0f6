import java.util.ArrayList;
import java.util.Arrays;
import java.util.HashMap;
import java.util.List;
import java.util.Map;

/** The document once more, in the slowest and most literal form: what JealousByCalendar is held against. */
final class NaiveCalendar {
    static final class Cause {
        int kind, figure, who, found;
        boolean used;

        int keeps() {
            int cause = 5 + figure, glove = 2 * cause, laugh = cause / 2;
            return new int[] {cause, glove, laugh, 0, laugh - 1, glove + 7}[kind];
        }

        int weight() {
            int cause = figure + 1, glove = cause + 2, laugh = 2 * cause;
            return new int[] {cause, glove, laugh, cause / 2, laugh + 9, glove - 1}[kind];
        }
    }

    static final class World {
        int day;
        int[] weekday = {0, 3}, purse = {50, 50}, borrowed = {0, 0}, owed = {0, 0};
        boolean[] jealous = {false, false};
        List<Cause> causes = new ArrayList<>();

        World copy() {
            World w = new World();
            w.day = day;
            w.weekday = weekday.clone();
            w.purse = purse.clone();
            w.borrowed = borrowed.clone();
            w.owed = owed.clone();
            w.jealous = jealous.clone();
            for (Cause c : causes) {
                w.add(c.kind, c.figure, c.who, c.found).used = c.used;
            }
            return w;
        }

        Cause add(int kind, int figure, int who, int found) {
            Cause c = new Cause();
            c.kind = kind;
            c.figure = figure;
            c.who = who;
            c.found = found;
            causes.add(c);
            return c;
        }

        boolean good(Cause c, int d) {
            return c.found <= d && d - c.found <= c.keeps() && (c.kind == 4 || d % 7 == weekday[c.who]);
        }

        boolean usable(Cause c) {
            return !jealous[c.who] && !c.used && good(c, day);
        }

        int use(Cause c) {
            int me = c.who, other = 1 - me, paid = 0;
            while (paid < c.weight() && purse[other] > 0 && purse[me] < 999) {
                purse[other]--;
                purse[me]++;
                paid++;
            }
            owed[other] += c.weight() - paid;
            c.used = true;
            jealous[me] = true;
            return paid;
        }

        void end() {
            for (int who = 0; who < 2; who++) {
                if (day % 7 == weekday[who] && !jealous[who]) {
                    purse[who] = Math.max(0, purse[who] - 3);
                    borrowed[who]++;
                }
                jealous[who] = false;
            }
            day++;
        }

        int choice(int who) {
            if (day % 7 != weekday[who] || jealous[who]) {
                return -1;
            }
            return soonest(who, day, 0);
        }

        int soonest(int who, int d, int gone) {
            int best = -1;
            for (int i = 0; i < causes.size(); i++) {
                Cause c = causes.get(i);
                if (c.who == who && !c.used && (gone >> i & 1) == 0 && good(c, d)
                        && (best < 0 || c.found + c.keeps() < causes.get(best).found + causes.get(best).keeps())) {
                    best = i;
                }
            }
            return best;
        }

        int live() {
            int weight = 0;
            for (int who = 0; who < 2; who++) {
                int i = choice(who);
                if (i >= 0) {
                    weight += causes.get(i).weight();
                    use(causes.get(i));
                }
            }
            return weight;
        }

        World run(int n) {
            World w = copy();
            while (w.day < n) {
                w.live();
                w.end();
            }
            return w;
        }

        List<Integer> needed(int who, int n) {
            List<Integer> days = new ArrayList<>();
            for (int d = day; d <= n; d++) {
                if (d % 7 == weekday[who] && !(d == day && jealous[who])) {
                    days.add(d);
                }
            }
            return days;
        }

        int unused() {
            return unusedFor(0) | unusedFor(1);
        }

        int unusedFor(int who) {
            int bits = 0;
            for (int i = 0; i < causes.size(); i++) {
                if (!causes.get(i).used && causes.get(i).who == who) {
                    bits |= 1 << i;
                }
            }
            return bits;
        }

        int weights(int bits) {
            int sum = 0;
            for (int i = 0; i < causes.size(); i++) {
                sum += (bits >> i & 1) * causes.get(i).weight();
            }
            return sum;
        }

        /** rows[i][set]: the greatest value from the i-th needed day on with the causes of the set. */
        int[][] values(int who, int n) {
            List<Integer> days = needed(who, n);
            int all = 1 << causes.size(), mine = unusedFor(who);
            int[][] rows = new int[days.size() + 1][all];
            for (int i = days.size() - 1; i >= 0; i--) {
                for (int set = 0; set < all; set++) {
                    int best = rows[i + 1][set];
                    for (int c = 0; c < causes.size(); c++) {
                        if ((set & mine & 1 << c) != 0 && good(causes.get(c), days.get(i))) {
                            best = Math.max(best, 1000 + causes.get(c).weight() + rows[i + 1][set & ~(1 << c)]);
                        }
                    }
                    rows[i][set] = best;
                }
            }
            return rows;
        }

        int laid(int who, int n) {
            return values(who, n)[0][(1 << causes.size()) - 1];
        }

        int both(int n) {
            return laid(0, n) + laid(1, n);
        }

        List<Integer> byHand(int who, int n) {
            List<Integer> hand = new ArrayList<>();
            int gone = 0;
            for (int d : needed(who, n)) {
                int i = soonest(who, d, gone);
                hand.add(i);
                gone |= i < 0 ? 0 : 1 << i;
            }
            return hand;
        }
    }

    World now = new World();
    World picture;
    List<World> past = new ArrayList<>();
    List<Integer> letters = new ArrayList<>();
    List<Integer> row = new ArrayList<>();
    int[] refused = new int[7];

    int no(int code) {
        refused[-code]++;
        return code;
    }

    int day(int n) {
        return n < now.day ? -4 : n > 83 ? -6 : 0;
    }

    static boolean nobody(int who) {
        return who < 0 || who > 1;
    }

    int oneDay(int who, int n) {
        return nobody(who) ? -1 : day(n);
    }

    int oneDayWhat(int who, int n, int what, int most) {
        int f = oneDay(who, n);
        return f != 0 ? f : what < 0 || what > most ? -2 : 0;
    }

    int dayWhat(int n, int what) {
        return oneDayWhat(0, n, what, 1);
    }

    int feed(int letter) {
        if (letter < 0) return no(-4);
        if (letter > 255 || letters.size() == 96) return no(-6);
        letters.add(letter);
        return letters.size();
    }

    int marriage() {
        StringBuilder text = new StringBuilder();
        for (int l : letters) text.append((char) l);
        letters.clear();
        int answer = tell(text.toString());
        return answer;
    }

    private int tell(String text) {
        // The longest beginning of the text that some marriage has.
        int at = 0, fine = 0;
        List<Integer> starts = new ArrayList<>();
        while (true) {
            if (at == text.length()) {
                if (at == 0) return -1000;
                break;
            }
            starts.add(at);
            int k = "wpcud".indexOf(text.charAt(at));
            if (k < 0) return -1000 - at;
            int digits = new int[] {2, 4, 5, 2, 1}[k];
            for (int i = 1; i <= digits; i++) {
                if (at + i >= text.length()) return -1000 - text.length();
                if (text.charAt(at + i) < '0' || text.charAt(at + i) > '9') return -1000 - at - i;
            }
            if (at + digits + 1 >= text.length()) return -1000 - text.length();
            if (text.charAt(at + digits + 1) != ';') return -1000 - (at + digits + 1);
            at += digits + 2;
        }
        World w = now.copy();
        for (int start : starts) {
            String s = text.substring(start, text.indexOf(';', start));
            if (!statement(w, s)) return -2000 - start;
        }
        now = w;
        past.clear();
        return starts.size();
    }

    private static boolean statement(World w, String s) {
        int[] d = new int[s.length()];
        for (int i = 1; i < s.length(); i++) d[i] = s.charAt(i) - '0';
        switch (s.charAt(0)) {
            case 'w':
                if (d[1] > 1 || d[2] > 6) return false;
                w.weekday[d[1]] = d[2];
                return true;
            case 'p':
                if (d[1] > 1) return false;
                w.purse[d[1]] = Integer.parseInt(s.substring(2));
                return true;
            case 'c':
                if (d[1] > 5 || d[3] > 1 || 10 * d[4] + d[5] > 83 || w.causes.size() == 12) return false;
                w.add(d[1], d[2], d[3], 10 * d[4] + d[5]);
                return true;
            case 'u':
                int c = 10 * d[1] + d[2];
                if (c >= w.causes.size() || !w.usable(w.causes.get(c))) return false;
                w.use(w.causes.get(c));
                return true;
            default:
                for (int i = 0; i < d[1]; i++) {
                    if (w.day == 83) return false;
                    w.end();
                }
                return true;
        }
    }

    int one(int who, int what) {
        if (nobody(who)) return no(-1);
        if (what < 0 || what > 4) return no(-2);
        return new int[] {now.weekday[who], now.purse[who], now.borrowed[who], now.owed[who], now.jealous[who] ? 1 : 0}[what];
    }

    int cause(int cause, int what) {
        if (cause < 0 || cause >= now.causes.size()) return no(-1);
        if (what < 0 || what > 8) return no(-2);
        Cause c = now.causes.get(cause);
        boolean sour = !c.used && now.day - c.found > c.keeps();
        return new int[] {c.kind, c.figure, c.who, c.found, c.used ? 1 : 0, c.keeps(), c.weight(), sour ? 1 : 0,
            now.good(c, now.day) ? 1 : 0}[what];
    }

    int set(int who, int what, int v) {
        if (nobody(who)) return no(-1);
        if (what < 0 || what > 1) return no(-2);
        if (v < 0) return no(-4);
        if (v > (what == 0 ? 6 : 999)) return no(-6);
        int[] cells = what == 0 ? now.weekday : now.purse;
        int was = cells[who];
        cells[who] = v;
        past.clear();
        return was;
    }

    int add(int kind, int figure, int who, int found) {
        if (nobody(who)) return no(-1);
        if (kind < 0 || kind > 5) return no(-2);
        if (figure < 0 || found < 0) return no(-4);
        if (figure > 9 || found > 83 || now.causes.size() == 12) return no(-6);
        now.add(kind, figure, who, found);
        past.clear();
        return now.causes.size() - 1;
    }

    private void remember() {
        past.add(now.copy());
        if (past.size() > 8) past.remove(0);
    }

    int use(int cause) {
        if (cause < 0 || cause >= now.causes.size()) return no(-1);
        if (!now.usable(now.causes.get(cause))) return no(-3);
        remember();
        return now.use(now.causes.get(cause));
    }

    int end() {
        if (now.day == 83) return no(-6);
        remember();
        now.end();
        return now.day;
    }

    int back() {
        if (past.isEmpty()) return no(-3);
        now = past.remove(past.size() - 1);
        return now.day;
    }

    int needed(int who, int n) {
        int f = oneDay(who, n);
        return f != 0 ? no(f) : now.needed(who, n).size();
    }

    int byHand(int who, int n, int what) {
        int f = oneDayWhat(who, n, what, 1);
        if (f != 0) return no(f);
        List<Integer> hand = now.byHand(who, n);
        int many = 0, first = -9;
        for (int i = hand.size() - 1; i >= 0; i--) {
            if (hand.get(i) < 0) {
                many++;
                first = now.needed(who, n).get(i);
            }
        }
        return what == 0 ? many : first;
    }

    int laid(int who, int n, int i) {
        if (nobody(who)) return no(-1);
        if (n < now.day || i < -1) return no(-4);
        if (n > 83) return no(-6);
        int[][] rows = now.values(who, n);
        int left = (1 << now.causes.size()) - 1;
        if (i == -1) return rows[0][left];
        for (int d = 0; d < rows.length - 1; d++) {
            int taken = -9;
            for (int c = 0; c < now.causes.size() && taken < 0; c++) {
                Cause x = now.causes.get(c);
                if ((left & now.unusedFor(who) & 1 << c) != 0 && now.good(x, now.needed(who, n).get(d))
                        && 1000 + x.weight() + rows[d + 1][left & ~(1 << c)] == rows[d][left]) {
                    taken = c;
                }
            }
            if (d == i) return taken;
            if (taken >= 0) left &= ~(1 << taken);
        }
        return -9;
    }

    int wasted(int who, int n) {
        int f = oneDay(who, n);
        if (f != 0) return no(f);
        int[] value = now.values(who, n)[0];
        int bits = 0;
        for (int c = 0; c < now.causes.size(); c++) {
            if ((now.unusedFor(who) & 1 << c) != 0 && value[value.length - 1 & ~(1 << c)] == value[value.length - 1]) {
                bits |= 1 << c;
            }
        }
        return bits;
    }

    int worth(int cause, int n) {
        if (cause < 0 || cause >= now.causes.size()) return no(-1);
        if (now.causes.get(cause).used) return no(-3);
        if (day(n) != 0) return no(day(n));
        World w = now.copy();
        w.causes.get(cause).used = true;
        int who = now.causes.get(cause).who;
        return now.laid(who, n) - w.laid(who, n);
    }

    int notAll(int who, int n) {
        int f = oneDay(who, n);
        if (f != 0) return no(f);
        List<Integer> days = now.needed(who, n);
        for (int size = 1; size <= Math.min(8, days.size()); size++) {
            for (int set = 0; set < 1 << Math.min(8, days.size()); set++) {
                if (Integer.bitCount(set) != size) continue;
                int good = 0;
                for (int c = 0; c < now.causes.size(); c++) {
                    boolean any = false;
                    for (int i = 0; i < days.size() && i < 8; i++) {
                        any |= (set >> i & 1) != 0 && now.good(now.causes.get(c), days.get(i));
                    }
                    if (any && (now.unusedFor(who) >> c & 1) != 0) good++;
                }
                if (good < size) return set;
            }
        }
        return -9;
    }

    private int settledAt(int who, int weekday, int n) {
        World w = now.copy();
        w.weekday[who] = weekday;
        int value = w.laid(who, n);
        return value % 1000 - 3 * (w.needed(who, n).size() - value / 1000);
    }

    int settled(int who, int weekday, int n) {
        if (nobody(who) || weekday < 0 || weekday > 6) return 1000000000 - no(-1);
        if (day(n) != 0) return 1000000000 - no(day(n));
        return settledAt(who, weekday, n);
    }

    int bestWeekday(int who, int n) {
        int f = oneDay(who, n);
        if (f != 0) return no(f);
        int best = 0;
        for (int w = 1; w < 7; w++) {
            if (settledAt(who, w, n) > settledAt(who, best, n)) best = w;
        }
        return best;
    }

    int neither(int n) {
        if (day(n) != 0) return no(day(n));
        int[][] value = new int[2][7];
        for (int w = 0; w < 7; w++) {
            value[0][w] = settledAt(0, w, n);
            value[1][w] = settledAt(1, w, n);
        }
        for (int a = 0; a < 7; a++) {
            for (int b = 0; b < 7; b++) {
                boolean stays = true;
                for (int x = 0; x < 7; x++) {
                    stays &= value[0][x] - (x == b ? 10 : 0) <= value[0][a] - (a == b ? 10 : 0);
                    stays &= value[1][x] - (x == a ? 10 : 0) <= value[1][b] - (a == b ? 10 : 0);
                }
                if (stays) return 10 * a + b;
            }
        }
        return -9;
    }

    /** By how much he who is to take has more of the set at the end. */
    private int lead(int set, Map<Integer, Integer> known) {
        if (set == 0) return 0;
        Integer old = known.get(set);
        if (old != null) return old;
        int best = Integer.MIN_VALUE;
        for (int c = 0; c < 12; c++) {
            if ((set >> c & 1) != 0) best = Math.max(best, now.weights(1 << c) - lead(set & ~(1 << c), known));
        }
        known.put(set, best);
        return best;
    }

    int turns(int what) {
        if (what < 0 || what > 1) return 1000000000 - no(-2);
        Map<Integer, Integer> known = new HashMap<>();
        int set = now.unused();
        if (what == 0) return lead(set, known);
        for (int c = 0; c < 12; c++) {
            if ((set >> c & 1) != 0 && now.weights(1 << c) - lead(set & ~(1 << c), known) == lead(set, known)) return c;
        }
        return -9;
    }

    int months(int weekday, int m, int what) {
        if (weekday < 0 || weekday > 6) return no(-1);
        if (m < 7) return no(-4);
        if (m > 31) return no(-6);
        if (what < 0 || what > 2) return no(-2);
        int[] have = new int[84 / m];
        for (int d = 0; d < 84 / m * m; d++) {
            if (d % 7 == weekday) have[d / m]++;
        }
        int most = Arrays.stream(have).max().getAsInt();
        int first = 0;
        while (have[first] != most) first++;
        return what == 0 ? (int) Arrays.stream(have).filter(h -> h == most).count() : what == 1 ? most : first;
    }

    /** Every way, one by one, told as the set of its causes: how often each set comes. */
    private void meanings(int who, int at, int gone, Map<Integer, Long> ways) {
        if (at == row.size()) {
            ways.merge(gone, 1L, Long::sum);
            return;
        }
        for (int c = 0; c < now.causes.size(); c++) {
            if ((now.unusedFor(who) & ~gone & 1 << c) != 0 && now.good(now.causes.get(c), row.get(at))) {
                meanings(who, at + 1, gone | 1 << c, ways);
            }
        }
    }

    long meant(int who, int what) {
        if (nobody(who)) return 4000000000000000000L - no(-1);
        if (what < 0 || what > 2) return 4000000000000000000L - no(-2);
        boolean wrong = row.size() > 8;
        for (int i = 0; i < row.size(); i++) {
            wrong |= row.get(i) > 83 || row.get(i) % 7 != now.weekday[who] || i > 0 && row.get(i) <= row.get(i - 1);
        }
        if (wrong) return 4000000000000000000L - no(-3);
        Map<Integer, Long> ways = new HashMap<>();
        meanings(who, 0, 0, ways);
        long many = 0;
        int inAll = now.unusedFor(who), inSome = 0;
        for (Map.Entry<Integer, Long> e : ways.entrySet()) {
            many += e.getValue();
            inAll &= e.getKey();
            inSome |= e.getKey();
        }
        return what == 0 ? many : what == 1 ? inAll : inSome;
    }

    int law(int what) {
        if (what < 0 || what > 1) return no(-2);
        for (int v : row) if (v > 83) return no(-3);
        int many = 0, greatest = -9;
        for (int k = 1; k <= 20; k++) {
            for (int s = 0; s < k; s++) {
                List<Integer> days = new ArrayList<>();
                for (int d = s; d <= 83; d += k) days.add(d);
                if (days.containsAll(row)) {
                    many++;
                    greatest = Math.max(greatest, 100 * k + s);
                }
            }
        }
        return what == 0 ? many : greatest;
    }

    private boolean lend(List<Integer> couples, int at, int[] taken, int friends, int known) {
        if (at == couples.size()) return true;
        int w = couples.get(at);
        int near = 1 << w | 1 << (w + 1) % 7 | 1 << (w + 6) % 7;
        for (int f = 0; f < friends && f <= known; f++) {
            if ((taken[f] & near) == 0) {
                taken[f] |= 1 << w;
                if (lend(couples, at + 1, taken, friends, Math.max(known, f + 1))) return true;
                taken[f] &= ~(1 << w);
            }
        }
        return false;
    }

    int friends(int what) {
        if (what < 0 || what > 1) return no(-2);
        for (int v : row) if (v > 6) return no(-3);
        if (what == 1) {
            int[] many = new int[7];
            for (int v : row) many[v]++;
            int best = -9;
            for (int w = 6; w >= 0; w--) if (many[w] > 0 && (best < 0 || many[w] >= many[best])) best = w;
            return best;
        }
        List<Integer> couples = new ArrayList<>(row);
        couples.sort(null);
        int friends = 0;
        while (!lend(couples, 0, new int[13], friends, 0)) friends++;
        return friends;
    }

    long chance(int t, int n, int part) {
        if (t < 2 || n < 0) return 4000000000000000000L - no(-4);
        if (t > 20 || n > 12) return 4000000000000000000L - no(-6);
        if (part < 0 || part > 1) return 4000000000000000000L - no(-2);
        java.math.BigInteger none = java.math.BigInteger.valueOf(t - 1).pow(n), all = java.math.BigInteger.valueOf(t).pow(n);
        java.math.BigInteger some = all.subtract(none), shared = some.gcd(all);
        return (part == 0 ? some : all).divide(shared).longValueExact();
    }

    int keep(int t) {
        if (t < 2) return no(-4);
        if (t > 20) return no(-6);
        java.math.BigInteger none = java.math.BigInteger.ONE, all = java.math.BigInteger.ONE;
        for (int n = 0; n <= 12; n++) {
            if (all.subtract(none).shiftLeft(1).compareTo(all) >= 0) return n;
            none = none.multiply(java.math.BigInteger.valueOf(t - 1));
            all = all.multiply(java.math.BigInteger.valueOf(t));
        }
        return -9;
    }

    int run(int who, int n, int what) {
        int f = oneDayWhat(who, n, what, 2);
        if (f != 0) return no(f);
        World w = now.run(n);
        return new int[] {w.purse[who], w.borrowed[who], w.owed[who]}[what];
    }

    private int withGift(int who, int kind, int figure, int found, int n) {
        World w = now.copy();
        w.add(kind, figure, who, found);
        return w.laid(who, n);
    }

    int gift(int who, int figure, int n) {
        if (nobody(who)) return no(-1);
        if (figure < 0 || n < now.day) return no(-4);
        if (figure > 9 || n > 83) return no(-6);
        int best = -9, most = now.laid(who, n);
        for (int kind = 0; kind < 6 && now.causes.size() < 12; kind++) {
            int v = withGift(who, kind, figure, now.day, n);
            if (v > most) {
                most = v;
                best = kind;
            }
        }
        return best;
    }

    int when(int who, int kind, int figure, int n) {
        if (nobody(who)) return no(-1);
        if (kind < 0 || kind > 5) return no(-2);
        if (figure < 0 || n < now.day) return no(-4);
        if (figure > 9 || n > 83) return no(-6);
        int best = -9, most = now.laid(who, n);
        for (int d = now.day; d <= n && now.causes.size() < 12; d++) {
            int v = withGift(who, kind, figure, d, n);
            if (v > most) {
                most = v;
                best = d;
            }
        }
        return best;
    }

    int changed(int n) {
        if (day(n) != 0) return no(day(n));
        int best = -9, most = now.both(n);
        for (int c = 0; c < now.causes.size(); c++) {
            if (now.causes.get(c).used) continue;
            World w = now.copy();
            w.causes.get(c).who ^= 1;
            if (w.both(n) > most) {
                most = w.both(n);
                best = c;
            }
        }
        return best;
    }

    int alike(int what) {
        if (what < 0 || what > 1) return no(-2);
        int all = now.unused(), best = 0, least = now.weights(all) + 1;
        for (int heap = 0; heap <= all; heap++) {
            if ((heap & ~all) != 0 || (heap & Integer.lowestOneBit(all)) == 0 && all != 0) continue;
            int apart = Math.abs(now.weights(heap) - now.weights(all & ~heap));
            if (apart < least) {
                least = apart;
                best = heap;
            }
        }
        return what == 0 ? least : best;
    }

    int spare(int n, int what) {
        int f = dayWhat(n, what);
        if (f != 0) return no(f);
        int[] his = now.values(0, n)[0], hers = now.values(1, n)[0];
        int all = his.length - 1, best = 0;
        for (int set = 0; set <= all; set++) {
            if ((set & ~now.unused()) == 0 && his[all & ~set] == his[all] && hers[all & ~set] == hers[all]
                    && Integer.bitCount(set) > Integer.bitCount(best)) {
                best = set;
            }
        }
        return what == 0 ? best : Integer.bitCount(best);
    }

    int over(int what) {
        if (what < 0 || what > 1) return no(-2);
        int first = now.day, last = -9;
        for (int d = now.day; d <= 83; d++) {
            for (Cause c : now.causes) {
                if (!c.used && now.good(c, d)) {
                    last = d;
                    first = d + 1;
                }
            }
        }
        return what == 0 ? first : last;
    }

    int streak(int who, int n, int what) {
        int f = oneDayWhat(who, n, what, 1);
        if (f != 0) return no(f);
        StringBuilder s = new StringBuilder();
        for (int i : now.byHand(who, n)) s.append(i < 0 ? '1' : '0');
        int best = 0;
        for (String part : s.toString().split(what == 0 ? "1" : "0")) best = Math.max(best, part.length());
        return best;
    }

    int quarrel(int n, int what) {
        int f = dayWhat(n, what);
        if (f != 0) return no(f);
        int many = 0, first = -9;
        for (int d = n; d >= now.day; d--) {
            int his = now.needed(0, n).indexOf(d), hers = now.needed(1, n).indexOf(d);
            if (his >= 0 && hers >= 0 && now.byHand(0, n).get(his) >= 0 && now.byHand(1, n).get(hers) >= 0) {
                many++;
                first = d;
            }
        }
        return what == 0 ? many : first;
    }

    int swapped(int n) {
        if (day(n) != 0) return 1000000000 - no(day(n));
        World w = now.copy();
        w.weekday = new int[] {now.weekday[1], now.weekday[0]};
        return w.both(n) - now.both(n);
    }

    int usedOn(int who, int day) {
        int f = oneDay(who, day);
        if (f != 0) return no(f);
        int c = now.run(day).choice(who);
        return c < 0 ? -9 : c;
    }

    int delay(int who, int n) {
        int f = oneDay(who, n);
        if (f != 0) return no(f);
        int most = 0;
        for (int k = 0; k <= n - now.day; k++) {
            World w = now.copy();
            for (Cause c : w.causes) {
                if (c.who == who && !c.used) c.found = Math.min(83, c.found + k);
            }
            if (w.laid(who, n) >= now.laid(who, n)) most = k;
        }
        return most;
    }

    int need(int who, int n) {
        int f = oneDay(who, n);
        if (f != 0) return no(f);
        for (int p = 0; p <= 999; p++) {
            World w = now.copy();
            w.purse[who] = p;
            if (w.run(n).owed[who] <= now.owed[who]) return p;
        }
        return -9;
    }

    int loss(int n, int what) {
        int f = dayWhat(n, what);
        if (f != 0) return no(f);
        int[] his = now.values(0, n)[0], hers = now.values(1, n)[0];
        int all = his.length - 1, least = Integer.MAX_VALUE, best = -9;
        for (int a = 0; a < now.causes.size(); a++) {
            for (int b = a; b < now.causes.size(); b++) {
                int gone = 1 << a | 1 << b;
                if ((a == b) != (what == 0) || (gone & ~now.unused()) != 0) continue;
                if (his[all & ~gone] + hers[all & ~gone] < least) {
                    least = his[all & ~gone] + hers[all & ~gone];
                    best = what == 0 ? a : 100 * a + b;
                }
            }
        }
        return best;
    }

    int heavyDay(int n, int what) {
        int f = dayWhat(n, what);
        if (f != 0) return no(f);
        int most = 0, best = -9;
        for (int d = now.day; d <= n; d++) {
            int weight = now.run(d).live();
            if (weight > most) {
                most = weight;
                best = d;
            }
        }
        return what == 0 ? best : most;
    }

    int row(int v) {
        if (v < 0) return no(-4);
        if (v > 99 || row.size() == 12) return no(-6);
        row.add(v);
        return row.size();
    }

    int judge(int who) {
        if (nobody(who)) return no(-1);
        int wrong = -9;
        for (int i = row.size() - 1; i >= 0; i--) {
            int d = now.day + 1 + i;
            if (d > 83 || Math.min(99, now.run(d).purse[who]) != row.get(i)) wrong = i;
        }
        row.clear();
        return wrong;
    }

    int clear() {
        int had = row.size();
        row.clear();
        return had;
    }

    int lots(int n, int z) {
        if (n < 1) return no(-4);
        if (n > 20) return no(-6);
        int sum = 0;
        for (int y = 0; y < n; y++) {
            World w = now.copy();
            for (Cause c : w.causes) {
                if (!c.used) {
                    z = z * 1103515245 + 12345;
                    c.found = (z & Integer.MAX_VALUE) / 65536 % 84;
                }
            }
            World e = w.run(83);
            sum += e.borrowed[0] + e.borrowed[1];
        }
        return sum;
    }

    int image() {
        picture = now.copy();
        return now.day;
    }

    int restore() {
        if (picture == null) return no(-3);
        now = picture.copy();
        past.clear();
        return now.day;
    }

    int count(int what) {
        int used = (1 << now.causes.size()) - 1 & ~now.unused();
        switch (what) {
            case 0: return now.causes.size();
            case 1: return now.day;
            case 2: return used;
            case 3: return now.weights(now.unused());
            case 4: return letters.size();
            case 5: return row.size();
            case 6: return past.size();
            default: return what > 10 && what < 17 ? refused[what - 10] : -9;
        }
    }
}
