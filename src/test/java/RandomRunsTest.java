import java.util.Random;

/** Long runs of drawn calls (always the same ones), held against the slow Reference. */
public final class RandomRunsTest {
    private static final int CALLS = 512;
    private static final int CALL_KINDS = 40;
    private static final int[] ODD = {Integer.MIN_VALUE, Integer.MAX_VALUE, -1, -2, 14, 4, 60, 61, 400, 256, 150, 1001};
    private static final String SIGNS = "0123456789*/+0190+*/";

    private final Random random;
    private final SentRound mine = new SentRound();
    private final Reference due = new Reference();
    private final StringBuilder calls = new StringBuilder();
    private final int houses;
    private final int pieces;
    private final int spread;
    private final int daysGone;

    private RandomRunsTest(long seed) {
        random = new Random(seed);
        houses = 1 + random.nextInt(14);
        pieces = 1 + random.nextInt(4);
        int[] spreads = {3, 30, 300, 3000, 20000};
        spread = spreads[random.nextInt(spreads.length)];
        daysGone = 1 + random.nextInt(60);
    }

    private int draw(int below) { return random.nextInt(40) == 0 ? odd() : random.nextInt(below); }
    private int odd() { return random.nextBoolean() ? ODD[random.nextInt(ODD.length)] : random.nextInt(); }
    private int drawHouse() { return draw(houses); }
    private int drawPiece() { return draw(pieces); }
    private int drawValue() {
        int v = random.nextInt(2 * spread + 1) - spread;
        return random.nextInt(20) == 0 ? (random.nextBoolean() ? 20000 : -20000) : random.nextInt(60) == 0 ? odd() : v;
    }
    private int drawDay() { return draw(due.day + 1); }
    private int drawDoubt() { return random.nextInt(4) == 0 ? draw(1002) : 1 + random.nextInt(Math.min(999, spread / 4 + 2)); }

    private boolean same(String call, long got, long want) {
        calls.append("  ").append(call).append(" = ").append(got).append('\n');
        if (got == want) return true;
        System.out.println(calls + "due is " + want);
        return false;
    }

    private boolean begin() {
        boolean fine = true;
        for (int h = 0; h < houses && fine; h++) {
            int w = random.nextInt(2);
            fine = same("house(" + w + ")", mine.house(w), due.house(w));
        }
        return fine;
    }

    private boolean step(int kind) {
        int h = drawHouse(), g = drawHouse(), p = drawPiece(), what = draw(2), s = draw(2), t = draw(4);
        switch (kind) {
            case 0: { int n = 1 + draw(daysGone); return same("pass(" + n + ")", mine.pass(n), due.pass(n)); }
            case 1: { int w = draw(2); return same("house(" + w + ")", mine.house(w), due.house(w)); }
            case 2: { int d = drawDoubt(); return same("doubt(" + h + ", " + d + ")", mine.doubt(h, d), due.doubt(h, d)); }
            case 3: return same("read(" + s + ")", mine.read(s), due.read(s));
            case 4: { int r = draw(due.readings.size() + 1); return same("takeBack(" + r + ")", mine.takeBack(r), due.takeBack(r)); }
            case 5: { int r = draw(due.readings.size() + 1), w = draw(7); return same("about(" + r + ", " + w + ")", mine.about(r, w), due.about(r, w)); }
            case 6: { int d = random.nextInt(3) == 0 ? drawDay() : -1; return same("asOf(" + d + ")", mine.asOf(d), due.asOf(d)); }
            case 7: { int k = 1 + draw(5); return same("factor(" + k + ")", mine.factor(k), due.factor(k)); }
            case 8: { int d = random.nextBoolean() ? drawDay() : draw(400); return same("drift(" + p + ", " + d + ")", mine.drift(p, d), due.drift(p, d)); }
            case 9: return same("many(" + h + ", " + p + ")", mine.many(h, p), due.many(h, p));
            case 10: return same("told(" + h + ", " + p + ")", mine.told(h, p), due.told(h, p));
            case 11: return same("agree(" + h + ", " + g + ", " + p + ")", mine.agree(h, g, p), due.agree(h, g, p));
            case 12: return same("agreeing(" + p + ")", mine.agreeing(p), due.agreeing(p));
            case 13: return same("common(" + p + ", " + what + ")", mine.common(p, what), due.common(p, what));
            case 14: return same("chain(" + h + ", " + g + ")", mine.chain(h, g), due.chain(h, g));
            case 15: return same("via(" + h + ", " + g + ")", mine.via(h, g), due.via(h, g));
            case 16: { int r = draw(4); return same("number(" + p + ", " + r + ", " + what + ")", mine.number(p, r, what), due.number(p, r, what)); }
            case 17: return same("mark(" + h + ", " + p + ")", mine.mark(h, p), due.mark(h, p));
            case 18: return same("judged(" + h + ", " + p + ")", mine.judged(h, p), due.judged(h, p));
            case 19: return same("run(" + h + ")", mine.run(h), due.run(h));
            case 20: return same("within(" + h + ", " + p + ", " + what + ")", mine.within(h, p, what), due.within(h, p, what));
            case 21: return same("widest(" + p + ")", mine.widest(p), due.widest(p));
            case 22: return same("share(" + p + ", " + what + ")", mine.share(p, what), due.share(p, what));
            case 23: { int q = draw(2); return same("parts(" + p + ", " + q + ", " + what + ")", mine.parts(p, q, what), due.parts(p, q, what)); }
            case 24: { int w = draw(3); return same("ways(" + p + ", " + w + ")", mine.ways(p, w), due.ways(p, w)); }
            case 25: return same("score(" + p + ")", mine.score(p), due.score(p));
            case 26: return same("wipe()", mine.wipe(), due.wipe());
            case 27: return same("fault()", mine.fault(), due.fault());
            case 28: return same("reckon()", mine.reckon(), due.reckon());
            case 29: return same("claim(" + h + ")", mine.claim(h), due.claim(h));
            case 30: { int y = draw(3), n = random.nextInt(5) == 0 ? draw(61) : random.nextInt(40) - 2; return same("sheet(" + t + ", " + y + ", " + n + ")", mine.sheet(t, y, n), due.sheet(t, y, n)); }
            case 31: return same("lose(" + t + ")", mine.lose(t), due.lose(t));
            case 32: return put(t);
            case 33: { int y = draw(3), i = draw(16); return same("get(" + t + ", " + y + ", " + i + ")", mine.get(t, y, i), due.get(t, y, i)); }
            case 34: { int i = draw(12), j = draw(12), n = draw(12); return same("copy(" + s + ", " + i + ", " + t + ", " + j + ", " + n + ")", mine.copy(s, i, t, j, n), due.copy(s, i, t, j, n)); }
            case 35: return same("write(" + p + ", " + t + ")", mine.write(p, t), due.write(p, t));
            case 36: { int w = draw(11); return same("count(" + w + ")", mine.count(w), due.count(w)); }
            case 37: return random.nextInt(6) > 0 || same("digest()", mine.digest(), due.digest());
            case 38: return typeText();
            default: { int on = drawDay(), v = drawValue(); return same("reading(" + h + ", " + p + ", " + on + ", " + v + ")", mine.reading(h, p, on, v), due.reading(h, p, on, v)); }
        }
    }

    private boolean put(int t) {
        int y = random.nextInt(4) > 0 && t >= 0 && t < 4 ? due.sheetType[t] : draw(3);
        int i = draw(16);
        int v = i % 4 == 0 ? drawHouse() : i % 4 == 1 ? drawPiece() : i % 4 == 2 ? drawDay() : drawValue();
        return same("put(" + t + ", " + y + ", " + i + ", " + v + ")", mine.put(t, y, i, v), due.put(t, y, i, v));
    }

    private boolean typeText() {
        boolean fine = true;
        for (int n = random.nextInt(4); n >= 0 && fine; n--) {
            int b = random.nextInt(80) == 0 ? draw(256) : SIGNS.charAt(random.nextInt(SIGNS.length()));
            fine = same("type(" + b + ")", mine.type(b), due.type(b));
        }
        return fine;
    }

    /** The readings come often, so that there is something to answer about. */
    private boolean run(int readingsInTen) {
        boolean fine = begin();
        for (int call = 0; call < CALLS - 60 && fine; call++) {
            fine = step(random.nextInt(10) < readingsInTen ? CALL_KINDS - 1 : random.nextInt(CALL_KINDS));
        }
        return fine && same("digest()", mine.digest(), due.digest());
    }

    public static void main(String[] args) {
        int runs = args.length > 0 ? Integer.parseInt(args[0]) : 150;
        long first = args.length > 1 ? Long.parseLong(args[1]) : 0;
        for (long seed = first; seed < first + runs; seed++) {
            if (!new RandomRunsTest(seed).run((int) (seed % 5))) {
                System.out.println("run by seed " + seed + " differs");
                System.exit(1);
            }
        }
        System.out.println(runs + " drawn runs answer as the reference does");
    }
}
