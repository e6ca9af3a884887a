import java.math.BigInteger;
import java.util.ArrayList;
import java.util.Arrays;
import java.util.List;
import java.util.Map;
import java.util.TreeMap;

/**
 * The document once more, as slowly and as literally as it can be said: nothing is kept but what
 * was told, and each answer is reckoned anew, with exact fractions and by trying all.
 */
final class Reference {
    static final int NO_INT = Integer.MIN_VALUE;
    static final int NOT_INT = Integer.MIN_VALUE + 1;
    static final long BAD_LONG = Long.MIN_VALUE + 2;
    static final long NOT_LONG = Long.MIN_VALUE + 3;

    /** An exact fraction. */
    static final class Q implements Comparable<Q> {
        static final Q ZERO = of(0);
        final BigInteger above;
        final BigInteger below;

        Q(BigInteger a, BigInteger b) {
            BigInteger g = a.gcd(b);
            if (b.signum() < 0) g = g.negate();
            above = a.divide(g);
            below = b.divide(g);
        }

        static Q of(long a) { return new Q(BigInteger.valueOf(a), BigInteger.ONE); }
        Q plus(Q o) { return new Q(above.multiply(o.below).add(o.above.multiply(below)), below.multiply(o.below)); }
        Q less(Q o) { return plus(o.times(of(-1))); }
        Q times(Q o) { return new Q(above.multiply(o.above), below.multiply(o.below)); }
        Q by(Q o) { return new Q(above.multiply(o.below), below.multiply(o.above)); }
        Q times(long n) { return times(of(n)); }
        Q by(long n) { return by(of(n)); }
        Q squared() { return times(this); }
        Q amount() { return above.signum() < 0 ? times(-1) : this; }
        long down() {
            BigInteger[] parts = above.divideAndRemainder(below);
            return parts[0].longValueExact() - (parts[1].signum() < 0 ? 1 : 0);
        }
        long up() { return -times(-1).down(); }
        long cut() { return above.divide(below).longValueExact(); }
        long nearest() { return plus(of(1).by(2)).down(); }
        @Override public int compareTo(Q o) { return above.multiply(o.below).compareTo(o.above.multiply(below)); }
        long side(int what) { return (what == 0 ? above : below).longValueExact(); }
    }

    static final class Reading {
        int house, piece, on, value, told, back = -1;
    }

    int day = 0, asOfDay = -1, k = 2, finding = 0;
    final List<Integer> way = new ArrayList<>();
    final List<Integer> doubts = new ArrayList<>();
    final List<Reading> readings = new ArrayList<>();
    final List<Integer> text = new ArrayList<>();
    final int[][] sheets = new int[4][];
    final int[] sheetType = new int[4];

    boolean isHouse(int h) { return h >= 0 && h < way.size(); }
    static boolean isPiece(int p) { return p >= 0 && p <= 3; }
    static boolean isSheet(int s) { return s >= 0 && s <= 3; }

    boolean known(Reading r) {
        int upTo = asOfDay == -1 ? day : asOfDay;
        return r.told <= upTo && !(r.back != -1 && r.back <= upTo);
    }

    List<Reading> knownOf(int house, int piece) {
        List<Reading> found = new ArrayList<>();
        for (Reading r : readings) if (r.house == house && r.piece == piece && known(r)) found.add(r);
        return found;
    }

    static Q mean(List<Q> all) {
        Q sum = Q.ZERO;
        for (Q q : all) sum = sum.plus(q);
        return sum.by(all.size());
    }

    static Q middle(List<Q> all) {
        List<Q> sorted = new ArrayList<>(all);
        sorted.sort(null);
        int n = sorted.size();
        return n % 2 == 1 ? sorted.get(n / 2) : sorted.get(n / 2 - 1).plus(sorted.get(n / 2)).by(2);
    }

    /** The mean of the pilot's readings of each day on which it read the piece. */
    TreeMap<Integer, Q> points(int piece) {
        TreeMap<Integer, List<Q>> byDay = new TreeMap<>();
        for (Reading r : knownOf(0, piece)) byDay.computeIfAbsent(r.on, d -> new ArrayList<>()).add(Q.of(r.value));
        TreeMap<Integer, Q> means = new TreeMap<>();
        for (Map.Entry<Integer, List<Q>> e : byDay.entrySet()) means.put(e.getKey(), mean(e.getValue()));
        return means;
    }

    static long driftOf(TreeMap<Integer, Q> points, int onDay) {
        Map.Entry<Integer, Q> a = points.floorEntry(onDay), b = points.ceilingEntry(onDay);
        if (a == null) return 0;
        Q here = a.getValue();
        if (b != null && b.getKey() > a.getKey()) {
            Q slope = b.getValue().less(a.getValue()).by(b.getKey() - a.getKey());
            here = here.plus(slope.times(onDay - a.getKey()));
        }
        return here.less(points.firstEntry().getValue()).times(1000).nearest();
    }

    List<Q> reduced(int house, int piece) {
        List<Q> all = new ArrayList<>();
        TreeMap<Integer, Q> points = points(piece);
        for (Reading r : knownOf(house, piece)) all.add(Q.of(1000L * r.value - driftOf(points, r.on)));
        return all;
    }

    boolean takes(int house, int piece) { return !knownOf(house, piece).isEmpty(); }

    List<Integer> taking(int piece) {
        List<Integer> all = new ArrayList<>();
        for (int h = 0; h < way.size(); h++) if (takes(h, piece)) all.add(h);
        return all;
    }

    long toldBy(int house, int piece) { return mean(reduced(house, piece)).nearest(); }

    // ---- houses, readings

    int pass(int n) {
        if (n < 1 || n > 100 || day + n > 399) return -2;
        return day += n;
    }

    int house(int w) {
        if (w != 0 && w != 1) return -2;
        if (way.size() == 14) return -4;
        way.add(w);
        doubts.add(10);
        return way.size() - 1;
    }

    int doubt(int h, int d) {
        if (!isHouse(h) || d < 1 || d > 1000) return -2;
        return doubts.set(h, d);
    }

    int reading(int h, int p, int on, int value) {
        if (!isHouse(h) || !isPiece(p) || on < 0 || on > day || value < -20000 || value > 20000) return -2;
        int like = 0;
        for (Reading r : readings) if (r.house == h && r.piece == p) like++;
        if (readings.size() == 150 || like == 8) return -4;
        Reading r = new Reading();
        r.house = h;
        r.piece = p;
        r.on = on;
        r.value = value;
        r.told = day;
        readings.add(r);
        return readings.size() - 1;
    }

    int read(int s) {
        if (!isSheet(s)) return -2;
        if (sheets[s] == null) return find(1);
        int many = 0;
        for (int i = 0; i + 3 < sheets[s].length; i += 4) {
            if (reading(sheets[s][i], sheets[s][i + 1], sheets[s][i + 2], sheets[s][i + 3]) < 0) break;
            many++;
        }
        return many;
    }

    int takeBack(int r) {
        if (r < 0 || r >= readings.size()) return -2;
        if (readings.get(r).back != -1) return -3;
        readings.get(r).back = day;
        return 1;
    }

    int about(int r, int what) {
        if (r < 0 || r >= readings.size() || what < 0 || what > 6) return -30000;
        Reading x = readings.get(r);
        return new int[] {x.house, x.piece, x.on, x.value, x.told, x.back, known(x) ? 1 : 0}[what];
    }

    int asOf(int d) {
        if (d < -1 || d > day) return -2;
        int was = asOfDay;
        asOfDay = d;
        return was;
    }

    int factor(int n) {
        if (n < 1 || n > 5) return -2;
        int was = k;
        k = n;
        return was;
    }

    // ---- drift, what is told

    int drift(int p, int d) { return isPiece(p) && d >= 0 && d <= 399 ? (int) driftOf(points(p), d) : NO_INT; }

    int many(int h, int p) { return isHouse(h) && isPiece(p) ? knownOf(h, p).size() : -2; }

    int told(int h, int p) {
        if (!isHouse(h) || !isPiece(p)) return NO_INT;
        return takes(h, p) ? (int) toldBy(h, p) : NOT_INT;
    }

    // ---- agreeing, chains

    int agree(int a, int b, int p) {
        if (!isHouse(a) || !isHouse(b) || a == b || !isPiece(p)) return -2;
        if (!takes(a, p) || !takes(b, p)) return -3;
        return agreeOf(toldBy(a, p), doubts.get(a), toldBy(b, p), doubts.get(b)) ? 1 : 0;
    }

    boolean agreeOf(long ta, long da, long tb, long db) {
        Q squares = Q.of(da).squared().plus(Q.of(db).squared());
        return Q.of(ta - tb).squared().compareTo(squares.times(1000000L * k * k)) <= 0;
    }

    int agreeing(int p) {
        if (!isPiece(p)) return -2;
        List<Integer> all = taking(p);
        int[] with = new int[14];
        for (int a : all) for (int b : all) {
            if (a == b || agreeOf(toldBy(a, p), doubts.get(a), toldBy(b, p), doubts.get(b))) with[a] |= 1 << b;
        }
        int best = 0;
        for (int bits = 1; bits < 1 << way.size(); bits++) {
            boolean all2 = Integer.bitCount(bits) > Integer.bitCount(best);
            for (int a = 0; a < way.size() && all2; a++) {
                if ((bits >> a & 1) == 1 && (with[a] & bits) != bits) all2 = false;
            }
            if (all2) best = bits;
        }
        return best;
    }

    int common(int p, int what) {
        if (!isPiece(p) || what < 0 || what > 1) return NO_INT;
        List<Long> tries = new ArrayList<>();
        for (int h : taking(p)) {
            for (long off = -1; off <= 1; off++) {
                tries.add(toldBy(h, p) - 1000L * k * doubts.get(h) + off);
                tries.add(toldBy(h, p) + 1000L * k * doubts.get(h) + off);
            }
        }
        tries.sort(null);
        int most = 0;
        long number = 0;
        List<Integer> all = taking(p);
        long[] t = new long[all.size()];
        for (int i = 0; i < t.length; i++) t[i] = toldBy(all.get(i), p);
        for (long x : tries) {
            int here = 0;
            for (int i = 0; i < t.length; i++) {
                long reach = 1000L * k * doubts.get(all.get(i));
                if (t[i] - reach <= x && x <= t[i] + reach) here++;
            }
            if (here > most) {
                most = here;
                number = x;
            }
        }
        if (what == 0) return most;
        return most == 0 ? NOT_INT : (int) number;
    }

    boolean joined(int a, int b) {
        for (int p = 0; p < 4; p++) if (a != b && takes(a, p) && takes(b, p)) return true;
        return false;
    }

    /** The least cost of all houses on a chain, both ends too, by ever longer chains; -1: none. */
    long cost(int from, int to) {
        int n = way.size();
        long[] best = new long[n];
        Arrays.fill(best, -1);
        best[from] = (long) doubts.get(from) * doubts.get(from);
        boolean[][] edge = new boolean[n][n];
        for (int a = 0; a < n; a++) for (int b = 0; b < n; b++) edge[a][b] = joined(a, b);
        for (int round = 0; round < n; round++) {
            for (int a = 0; a < n; a++) for (int b = 0; b < n; b++) {
                if (best[a] >= 0 && edge[a][b]) {
                    long c = best[a] + (long) doubts.get(b) * doubts.get(b);
                    if (best[b] < 0 || c < best[b]) best[b] = c;
                }
            }
        }
        return best[to];
    }

    int chain(int from, int to) {
        if (!isHouse(from) || !isHouse(to) || from == to) return -2;
        return (int) cost(from, to);
    }

    int via(int from, int to) {
        if (!isHouse(from) || !isHouse(to) || from == to) return -2;
        int found = -1;
        long least = -1;
        for (int h = 0; h < way.size(); h++) {
            if (!joined(from, h)) continue;
            long c = cost(h, to);
            if (c >= 0 && (least < 0 || c < least)) {
                least = c;
                found = h;
            }
        }
        return found;
    }

    // ---- one number, marks

    List<Q> allTold(int p) {
        List<Q> all = new ArrayList<>();
        for (int h : taking(p)) all.add(Q.of(toldBy(h, p)));
        return all;
    }

    Q numberBy(int p, int rule) {
        List<Q> t = allTold(p);
        if (rule == 0) return middle(t);
        if (rule == 1) {
            List<Q> means = new ArrayList<>();
            for (int i = 0; i < t.size(); i++) for (int j = i; j < t.size(); j++) means.add(t.get(i).plus(t.get(j)).by(2));
            return middle(means);
        }
        if (rule == 2) {
            Q above = Q.ZERO, below = Q.ZERO;
            for (int h : taking(p)) {
                Q w = Q.of(Q.of(100000000).by(Q.of(doubts.get(h)).squared()).cut());
                above = above.plus(w.times(toldBy(h, p)));
                below = below.plus(w);
            }
            return above.by(below);
        }
        return Q.of(steps(t));
    }

    static long steps(List<Q> t) {
        long x = middle(t).down();
        List<Q> off = new ArrayList<>();
        for (Q q : t) off.add(q.less(Q.of(x)).amount());
        long s = middle(off).times(1483).by(1000).down();
        for (int step = 0; step < 10; step++) {
            long reach = Q.of(3 * s).by(2).cut();
            Q low = Q.of(x - reach), high = Q.of(x + reach);
            List<Q> clipped = new ArrayList<>();
            for (Q q : t) clipped.add(q.compareTo(low) < 0 ? low : q.compareTo(high) > 0 ? high : q);
            x = mean(clipped).down();
            Q squares = Q.ZERO;
            for (Q q : clipped) squares = squares.plus(q.less(Q.of(x)).squared());
            long spread = t.size() == 1 ? 0 : squares.by(t.size() - 1).cut();
            long q = Q.of(spread).times(1286).by(1000).cut();
            s = BigInteger.valueOf(q).sqrt().longValueExact();
        }
        return x;
    }

    long number(int p, int rule, int what) {
        if (!isPiece(p) || rule < 0 || rule > 3 || what < 0 || what > 1) return BAD_LONG;
        return taking(p).isEmpty() ? NOT_LONG : numberBy(p, rule).side(what);
    }

    int mark(int h, int p) {
        if (!isHouse(h) || !isPiece(p)) return NO_INT;
        if (!takes(h, p)) return NOT_INT;
        return (int) Q.of(toldBy(h, p)).less(numberBy(p, 3)).times(100).by(1000L * doubts.get(h)).cut();
    }

    int judged(int h, int p) {
        if (!isHouse(h) || !isPiece(p)) return -2;
        if (!takes(h, p)) return -3;
        int m = Math.abs(mark(h, p));
        return m <= 200 ? 0 : m > 300 ? 2 : 1;
    }

    int run(int h) {
        if (!isHouse(h)) return -2;
        List<Integer> marks = new ArrayList<>();
        for (int p = 0; p < 4; p++) if (takes(h, p)) marks.add(mark(h, p));
        int longest = 0;
        for (int from = 0; from < marks.size(); from++) {
            for (int to = from; to < marks.size(); to++) {
                boolean above = true, below = true;
                for (int i = from; i <= to; i++) {
                    above &= marks.get(i) > 0;
                    below &= marks.get(i) < 0;
                }
                if (above || below) longest = Math.max(longest, to - from + 1);
            }
        }
        return longest;
    }

    // ---- repeats, parts

    List<Q> rounded(int h, int p) {
        List<Q> all = new ArrayList<>();
        for (Q q : reduced(h, p)) all.add(Q.of(q.by(1000).nearest()));
        return all;
    }

    static Q spread(List<Q> all) {
        Q m = mean(all), sum = Q.ZERO;
        for (Q q : all) sum = sum.plus(q.less(m).squared());
        return sum.by(all.size() - 1);
    }

    long within(int h, int p, int what) {
        if (!isHouse(h) || !isPiece(p) || what < 0 || what > 1) return BAD_LONG;
        return knownOf(h, p).size() < 2 ? NOT_LONG : spread(rounded(h, p)).side(what);
    }

    int widest(int p) {
        if (!isPiece(p)) return -2;
        int found = -1;
        Q most = null;
        for (int h = 0; h < way.size(); h++) {
            if (knownOf(h, p).size() >= 2) {
                Q w = spread(rounded(h, p));
                if (most == null || w.compareTo(most) > 0) {
                    most = w;
                    found = h;
                }
            }
        }
        return found;
    }

    long share(int p, int what) {
        if (!isPiece(p) || what < 0 || what > 1) return BAD_LONG;
        int w = widest(p);
        if (w < 0) return NOT_LONG;
        Q all = Q.ZERO;
        for (int h = 0; h < way.size(); h++) if (knownOf(h, p).size() >= 2) all = all.plus(spread(rounded(h, p)));
        return (all.above.signum() == 0 ? Q.ZERO : spread(rounded(w, p)).by(all)).side(what);
    }

    long parts(int p, int part, int what) {
        if (!isPiece(p) || part < 0 || part > 1 || what < 0 || what > 1) return BAD_LONG;
        List<Integer> all = taking(p);
        if (all.size() < 2) return NOT_LONG;
        int n = knownOf(all.get(0), p).size();
        for (int h : all) if (knownOf(h, p).size() != n) return NOT_LONG;
        if (n < 2) return NOT_LONG;
        List<Q> withins = new ArrayList<>(), means = new ArrayList<>();
        for (int h : all) {
            withins.add(spread(rounded(h, p)));
            means.add(mean(rounded(h, p)));
        }
        Q within = mean(withins);
        Q between = spread(means).less(within.by(n));
        if (between.compareTo(Q.ZERO) < 0) between = Q.ZERO;
        return (part == 0 ? within : between).side(what);
    }

    // ---- ways

    int ways(int p, int what) {
        if (!isPiece(p) || what < 0 || what > 2) return -2;
        List<Integer> all = taking(p);
        int ones = 0;
        for (int h : all) ones += way.get(h);
        if (what == 0) return all.size() - ones;
        if (what == 1) return ones;
        if (ones == 0 || ones == all.size()) return -3;
        if (all.size() > 13) return -4;
        long[] t = new long[all.size()];
        for (int i = 0; i < t.length; i++) t[i] = toldBy(all.get(i), p);
        long least = score(p), dealings = 0, reaching = 0;
        for (int bits = 0; bits < 1 << t.length; bits++) {
            if (Integer.bitCount(bits) != ones) continue;
            long sum = 0;
            for (int i = 0; i < t.length; i++) if ((bits >> i & 1) == 1) sum += t[i];
            dealings++;
            if (sum >= least) reaching++;
        }
        return (int) (reaching * 1000000 / dealings);
    }

    long score(int p) {
        if (!isPiece(p)) return Long.MIN_VALUE;
        long sum = 0;
        for (int h : taking(p)) if (way.get(h) == 1) sum += toldBy(h, p);
        return sum;
    }

    // ---- texts

    int type(int b) {
        if (b < 0 || b > 255) return -2;
        if (text.size() == 60) return -4;
        text.add(b);
        return text.size();
    }

    int wipe() {
        int was = text.size();
        text.clear();
        return was;
    }

    /** The fault's place, or -1 less the doubt, if there is none. */
    int parse() {
        Q part = null;
        Q square = Q.ZERO;
        char sign = '+';
        int i = 0;
        int n = text.size();
        while (true) {
            int first = i;
            StringBuilder figures = new StringBuilder();
            while (i < n && figures.length() < 3 && Character.isDigit((char) (int) text.get(i)) && text.get(i) < 128) {
                figures.append((char) (int) text.get(i++));
            }
            if (figures.length() == 0) return first;
            int number = Integer.parseInt(figures.toString());
            if (sign == '/' && number == 0) return first;
            if (sign == '+') {
                if (part != null) square = square.plus(Q.of(part.squared().times(10000).up()));
                part = Q.of(number);
            } else {
                part = sign == '*' ? part.times(number) : part.by(number);
            }
            BigInteger most = BigInteger.valueOf(100000);
            if (part.above.compareTo(most) > 0 || part.below.compareTo(most) > 0) return first;
            if (i == n) break;
            int next = text.get(i);
            if (next != '+' && next != '*' && next != '/') return i;
            sign = (char) next;
            i++;
        }
        square = square.plus(Q.of(part.squared().times(10000).up()));
        for (int d = 1; d < 1000; d++) if (Q.of(d).squared().times(10000).compareTo(square) >= 0) return -1 - d;
        return -1 - 1000;
    }

    int fault() { return Math.max(parse(), -1); }

    int reckon() { return parse() >= 0 ? -3 : -1 - parse(); }

    int claim(int h) {
        if (!isHouse(h)) return -2;
        return parse() >= 0 ? -3 : doubts.set(h, -1 - parse());
    }

    // ---- sheets

    int find(int number) {
        finding = number;
        return -10 - number;
    }

    int sheet(int s, int type, int n) {
        if (!isSheet(s) || type < 0 || type > 2 || n > 60) return -2;
        if (n < 0) return find(5);
        sheets[s] = new int[n];
        sheetType[s] = type;
        return n;
    }

    int lose(int s) {
        if (!isSheet(s)) return -2;
        if (sheets[s] == null) return find(1);
        int was = sheets[s].length;
        sheets[s] = null;
        return was;
    }

    void store(int s, int i, int v) {
        sheets[s][i] = sheetType[s] == 0 ? (byte) v : sheetType[s] == 1 ? (short) v : v;
    }

    int put(int s, int type, int i, int v) {
        if (!isSheet(s) || type < 0 || type > 2) return -2;
        if (sheets[s] == null) return find(1);
        if (sheetType[s] != type) return find(3);
        if (i < 0 || i >= sheets[s].length) return find(2);
        store(s, i, v);
        return 1;
    }

    int get(int s, int type, int i) {
        if (!isSheet(s) || type < 0 || type > 2) return NO_INT;
        if (sheets[s] == null) find(1);
        else if (sheetType[s] != type) find(3);
        else if (i < 0 || i >= sheets[s].length) find(2);
        else return sheets[s][i];
        return NO_INT;
    }

    int copy(int s, int i, int t, int j, int n) {
        if (!isSheet(s) || !isSheet(t)) return -2;
        if (sheets[s] == null || sheets[t] == null) return find(1);
        if (sheetType[s] != sheetType[t]) return find(4);
        if (i < 0 || j < 0 || n < 0 || (long) i + n > sheets[s].length || (long) j + n > sheets[t].length) return find(2);
        int[] were = sheets[s].clone();
        for (int x = 0; x < n; x++) sheets[t][j + x] = were[i + x];
        return 1;
    }

    int write(int p, int s) {
        if (!isPiece(p) || !isSheet(s)) return -2;
        if (sheets[s] == null) return find(1);
        int n = 0;
        while (n < way.size() && n < sheets[s].length) {
            store(s, n, takes(n, p) ? (int) toldBy(n, p) : 0);
            n++;
        }
        return n;
    }

    int count(int what) {
        if (what == 0) return day;
        if (what == 1) return way.size();
        if (what == 2) return readings.size();
        if (what == 3) {
            int n = 0;
            for (Reading r : readings) if (known(r)) n++;
            return n;
        }
        if (what >= 4 && what <= 7) return taking(what - 4).size();
        if (what == 8) return finding;
        if (what == 9) return text.size();
        return what == 10 ? k : -2;
    }

    long digest() {
        long h = 17;
        for (int what : new int[] {0, 1, 2, 3, 4, 5, 6, 7, 9, 10}) h = 31 * h + count(what);
        for (int house = 0; house < way.size(); house++) {
            h = 31 * h + doubts.get(house);
            for (int p = 0; p < 4; p++) h = 31 * h + told(house, p);
        }
        for (int p = 0; p < 4; p++) {
            h = 31 * h + agreeing(p);
            h = 31 * h + common(p, 0);
            for (int rule = 0; rule < 4; rule++) {
                boolean none = taking(p).isEmpty();
                h = 31 * h + (none ? -3 : number(p, rule, 0));
                h = 31 * h + (none ? -3 : number(p, rule, 1));
            }
            h = 31 * h + widest(p);
        }
        return 31 * h + fault();
    }
}
