/** For each promise of the document: ordinary inputs, the edges that it names, wrong inputs. */
public final class PromiseTest {
    private static final int NO_INT = Integer.MIN_VALUE;
    private static final int NOT_INT = Integer.MIN_VALUE + 1;
    private static final long BAD_LONG = Long.MIN_VALUE + 2;
    private static final long NOT_LONG = Long.MIN_VALUE + 3;
    private static final int MAX = Integer.MAX_VALUE;

    private static int promise = 0;
    private static int asked = 0;
    private static int wrong = 0;

    private static void due(String call, long got, long want) {
        asked++;
        if (got != want) {
            wrong++;
            System.out.println("promise " + promise + ": " + call + " answered " + got + ", due is " + want);
        }
    }

    private static SentRound withHouses(int... ways) {
        SentRound x = new SentRound();
        for (int w : ways) x.house(w);
        return x;
    }

    /** House h reads the piece on day 0 as each value of the row h. */
    private static void readAll(SentRound x, int piece, int[]... rows) {
        for (int h = 0; h < rows.length; h++) for (int v : rows[h]) x.reading(h, piece, 0, v);
    }

    private static int[] row(int... values) { return values; }

    private static void typed(SentRound x, String text) {
        x.wipe();
        for (char c : text.toCharArray()) x.type(c);
    }

    private static void filled(SentRound x, int s, int type, int... items) {
        x.sheet(s, type, items.length);
        for (int i = 0; i < items.length; i++) x.put(s, type, i, items[i]);
    }

    private static void items(SentRound x, int s, int type, int... items) {
        for (int i = 0; i < items.length; i++) due("get(" + s + ", " + type + ", " + i + ")", x.get(s, type, i), items[i]);
    }

    private static void number(SentRound x, int piece, int rule, long above, long below) {
        due("number(" + piece + ", " + rule + ", 0)", x.number(piece, rule, 0), above);
        due("number(" + piece + ", " + rule + ", 1)", x.number(piece, rule, 1), below);
    }

    private static void promise1() {
        SentRound x = new SentRound();
        for (int what = 0; what <= 9; what++) due("count(" + what + ")", x.count(what), 0);
        due("count(10)", x.count(10), 2);
        for (int s = 0; s < 4; s++) due("lose(" + s + ")", x.lose(s), -11);
        due("asOf(-1)", x.asOf(-1), -1);
        due("doubt(0, 5)", x.doubt(0, 5), -2);
        due("fault()", x.fault(), 0);
    }

    private static void promise2() {
        SentRound x = new SentRound();
        for (int n : row(0, -1, 101, NO_INT, MAX)) due("pass(" + n + ")", x.pass(n), -2);
        due("count(0)", x.count(0), 0);
        due("pass(1)", x.pass(1), 1);
        due("pass(100)", x.pass(100), 101);
        due("pass(100)", x.pass(100), 201);
        due("pass(100)", x.pass(100), 301);
        due("pass(99)", x.pass(99), -2);
        due("count(0)", x.count(0), 301);
        due("pass(98)", x.pass(98), 399);
        due("pass(1)", x.pass(1), -2);
    }

    private static void promise3() {
        SentRound x = new SentRound();
        for (int w : row(-1, 2, NO_INT, MAX)) due("house(" + w + ")", x.house(w), -2);
        for (int h = 0; h < 14; h++) due("house(1)", x.house(h % 2), h);
        due("house(0)", x.house(0), -4);
        due("house(2)", x.house(2), -2);
        due("count(1)", x.count(1), 14);
        readAll(x, 0, row(1), row(1), row(1));
        due("ways(0, 0)", x.ways(0, 0), 2);
        due("ways(0, 1)", x.ways(0, 1), 1);
    }

    private static void promise4() {
        SentRound x = withHouses(0, 0);
        due("doubt(0, 1)", x.doubt(0, 1), 10);
        due("doubt(0, 1000)", x.doubt(0, 1000), 1);
        due("doubt(0, 0)", x.doubt(0, 0), -2);
        due("doubt(0, 1001)", x.doubt(0, 1001), -2);
        due("doubt(0, 7)", x.doubt(0, 7), 1000);
        due("doubt(1, 7)", x.doubt(1, 7), 10);
        for (int h : row(-1, 2, NO_INT, MAX)) due("doubt(" + h + ", 7)", x.doubt(h, 7), -2);
    }

    private static void promise5() {
        SentRound x = withHouses(0, 0);
        x.pass(5);
        due("reading(0, 0, 5, 20000)", x.reading(0, 0, 5, 20000), 0);
        due("reading(0, 3, 0, -20000)", x.reading(0, 3, 0, -20000), 1);
        due("reading(0, 0, 6, 1)", x.reading(0, 0, 6, 1), -2);
        due("reading(0, 0, -1, 1)", x.reading(0, 0, -1, 1), -2);
        due("reading(0, 0, 0, 20001)", x.reading(0, 0, 0, 20001), -2);
        due("reading(0, 0, 0, -20001)", x.reading(0, 0, 0, -20001), -2);
        due("reading(0, 4, 0, 1)", x.reading(0, 4, 0, 1), -2);
        due("reading(0, -1, 0, 1)", x.reading(0, -1, 0, 1), -2);
        due("reading(2, 0, 0, 1)", x.reading(2, 0, 0, 1), -2);
        due("reading(-1, 0, 0, 1)", x.reading(-1, 0, 0, 1), -2);
        due("count(2)", x.count(2), 2);
        for (int i = 0; i < 8; i++) due("reading(1, 0, 0, 1)", x.reading(1, 0, 0, 1), 2 + i);
        due("reading(1, 0, 0, 1)", x.reading(1, 0, 0, 1), -4);
        x.takeBack(2);
        due("reading(1, 0, 0, 1), one being taken back", x.reading(1, 0, 0, 1), -4);
        due("reading(1, 0, 0, 20001)", x.reading(1, 0, 0, 20001), -2);
        due("reading(1, 1, 0, 1)", x.reading(1, 1, 0, 1), 10);
        x = withHouses(0, 0, 0, 0, 0);
        for (int i = 0; i < 150; i++) due("reading", x.reading(i / 32, i / 8 % 4, 0, i), i);
        due("reading(4, 3, 0, 1)", x.reading(4, 3, 0, 1), -4);
        due("reading(4, 4, 0, 1)", x.reading(4, 4, 0, 1), -2);
        due("count(2)", x.count(2), 150);
    }

    private static void promise6() {
        SentRound x = withHouses(0, 1);
        x.pass(3);
        due("read(-1)", x.read(-1), -2);
        due("read(4)", x.read(4), -2);
        due("count(8)", x.count(8), 0);
        due("read(0)", x.read(0), -11);
        due("count(8)", x.count(8), 1);
        filled(x, 0, 0, 0, 0, 3, -5, 1, 3, 2, 127, 1, 2, 2);
        due("read(0) of bytes", x.read(0), 2);
        due("about(0, 3)", x.about(0, 3), -5);
        due("about(1, 0)", x.about(1, 0), 1);
        due("about(1, 1)", x.about(1, 1), 3);
        due("about(1, 2)", x.about(1, 2), 2);
        due("about(1, 3)", x.about(1, 3), 127);
        filled(x, 1, 1, 0, 1, 0, 20001, 0, 1, 0, 1);
        due("read(1), the first too great", x.read(1), 0);
        filled(x, 1, 2, 0, 1, 0, 1, 0, 1, 4, 1, 0, 1, 0, 1);
        due("read(1), the second ahead of its day", x.read(1), 1);
        x.sheet(2, 2, 3);
        due("read(2), none whole", x.read(2), 0);
        x.sheet(2, 2, 0);
        due("read(2), empty", x.read(2), 0);
        x.sheet(3, 2, 60);
        due("read(3), 7 more fit", x.read(3), 7);
        due("many(0, 0)", x.many(0, 0), 8);
        due("read(3), none fits", x.read(3), 0);
        due("count(8) is as it was", x.count(8), 1);
    }

    private static void promise7() {
        SentRound x = withHouses(0);
        due("takeBack(0)", x.takeBack(0), -2);
        x.reading(0, 0, 0, 5);
        x.reading(0, 0, 0, 7);
        due("told(0, 0)", x.told(0, 0), 6000);
        x.pass(2);
        due("takeBack(1)", x.takeBack(1), 1);
        due("told(0, 0)", x.told(0, 0), 5000);
        due("takeBack(1)", x.takeBack(1), -3);
        for (int r : row(-1, 2, NO_INT, MAX)) due("takeBack(" + r + ")", x.takeBack(r), -2);
        due("about(1, 5)", x.about(1, 5), 2);
    }

    private static void promise8() {
        SentRound x = withHouses(0, 0);
        x.pass(9);
        x.reading(1, 2, 4, -77);
        int[] first = {1, 2, 4, -77, 9, -1, 1};
        for (int what = 0; what <= 6; what++) due("about(0, " + what + ")", x.about(0, what), first[what]);
        x.pass(1);
        x.takeBack(0);
        due("about(0, 5)", x.about(0, 5), 10);
        due("about(0, 6)", x.about(0, 6), 0);
        x.asOf(9);
        due("about(0, 6)", x.about(0, 6), 1);
        due("about(0, 5), as of the day before", x.about(0, 5), 10);
        x.asOf(8);
        due("about(0, 6)", x.about(0, 6), 0);
        for (int what : row(-1, 7, NO_INT, MAX)) due("about(0, " + what + ")", x.about(0, what), -30000);
        for (int r : row(-1, 1, NO_INT, MAX)) due("about(" + r + ", 0)", x.about(r, 0), -30000);
    }

    private static void promise9() {
        SentRound x = withHouses(0);
        x.reading(0, 0, 0, 1);
        x.pass(5);
        x.reading(0, 0, 0, 3);
        x.pass(5);
        due("told(0, 0)", x.told(0, 0), 2000);
        due("asOf(11)", x.asOf(11), -2);
        due("asOf(-2)", x.asOf(-2), -2);
        due("asOf(4)", x.asOf(4), -1);
        due("told(0, 0)", x.told(0, 0), 1000);
        due("asOf(5)", x.asOf(5), 4);
        due("told(0, 0)", x.told(0, 0), 2000);
        due("asOf(10)", x.asOf(10), 5);
        x.pass(1);
        x.reading(0, 0, 0, 5);
        due("told(0, 0), the third told behind the day", x.told(0, 0), 2000);
        due("asOf(-1)", x.asOf(-1), 10);
        due("told(0, 0)", x.told(0, 0), 3000);
        due("asOf(0)", x.asOf(0), -1);
        due("count(3)", x.count(3), 1);
    }

    private static void promise10() {
        SentRound x = new SentRound();
        for (int k : row(0, 6, -1, NO_INT, MAX)) due("factor(" + k + ")", x.factor(k), -2);
        due("factor(1)", x.factor(1), 2);
        due("factor(5)", x.factor(5), 1);
        due("factor(2)", x.factor(2), 5);
        due("count(10)", x.count(10), 2);
    }

    private static void promise11() {
        SentRound x = withHouses(0, 0);
        x.pass(100);
        due("drift(0, 5) without points", x.drift(0, 5), 0);
        x.reading(1, 0, 0, 9999);
        due("drift(0, 5), another house", x.drift(0, 5), 0);
        x.reading(0, 0, 13, 1);
        x.reading(0, 0, 10, 0);
        due("drift(0, 11): a third", x.drift(0, 11), 333);
        due("drift(0, 12): two thirds", x.drift(0, 12), 667);
        due("drift(0, 13)", x.drift(0, 13), 1000);
        due("drift(0, 399)", x.drift(0, 399), 1000);
        due("drift(0, 10)", x.drift(0, 10), 0);
        due("drift(0, 0)", x.drift(0, 0), 0);
        x.reading(0, 0, 10, 1);
        due("drift(0, 13), the first point's mean is a half", x.drift(0, 13), 500);
        x.reading(0, 1, 0, 0);
        x.reading(0, 1, 16, 1);
        due("drift(1, 1): 62.5", x.drift(1, 1), 63);
        x.reading(0, 2, 0, 0);
        x.reading(0, 2, 16, -1);
        due("drift(2, 1): -62.5", x.drift(2, 1), -62);
        x.reading(0, 2, 18, 9);
        due("drift(2, 17)", x.drift(2, 17), 4000);
        due("drift(2, 16)", x.drift(2, 16), -1000);
        for (int p : row(-1, 4, NO_INT, MAX)) due("drift(" + p + ", 0)", x.drift(p, 0), NO_INT);
        for (int d : row(-1, 400, NO_INT, MAX)) due("drift(0, " + d + ")", x.drift(0, d), NO_INT);
    }

    private static void promise12() {
        SentRound x = withHouses(0, 0);
        due("many(0, 0)", x.many(0, 0), 0);
        x.reading(0, 0, 0, 1);
        x.reading(0, 0, 0, 1);
        x.reading(0, 1, 0, 1);
        due("many(0, 0)", x.many(0, 0), 2);
        x.takeBack(0);
        due("many(0, 0)", x.many(0, 0), 1);
        due("many(1, 0)", x.many(1, 0), 0);
        for (int h : row(-1, 2, NO_INT, MAX)) due("many(" + h + ", 0)", x.many(h, 0), -2);
        for (int p : row(-1, 4, NO_INT, MAX)) due("many(0, " + p + ")", x.many(0, p), -2);
    }

    private static void promise13() {
        SentRound x = withHouses(0, 0, 0);
        x.pass(10);
        x.reading(1, 0, 0, 0);
        x.reading(1, 0, 0, 0);
        x.reading(1, 0, 0, 1);
        due("told(1, 0): a third", x.told(1, 0), 333);
        x.reading(1, 1, 0, 0);
        x.reading(1, 1, 0, -1);
        x.reading(1, 1, 0, -1);
        due("told(1, 1): less two thirds", x.told(1, 1), -667);
        x.reading(0, 2, 0, 0);
        x.reading(0, 2, 3, 1);
        x.reading(1, 2, 1, 0);
        x.reading(1, 2, 0, 0);
        due("told(1, 2): the middle of -333 and 0", x.told(1, 2), -166);
        x.reading(2, 2, 1, 1);
        x.reading(2, 2, 0, 1);
        due("told(2, 2): the middle of 667 and 1000", x.told(2, 2), 834);
        due("told(0, 2), the pilot", x.told(0, 2), 0);
        due("told(2, 0)", x.told(2, 0), NOT_INT);
        for (int h : row(-1, 3, NO_INT, MAX)) due("told(" + h + ", 0)", x.told(h, 0), NO_INT);
        for (int p : row(-1, 4, NO_INT, MAX)) due("told(1, " + p + ")", x.told(1, p), NO_INT);
    }

    private static void promise14() {
        SentRound x = withHouses(0, 0, 0, 0);
        x.doubt(0, 3);
        x.doubt(1, 4);
        x.doubt(2, 4);
        readAll(x, 0, row(0), row(10), row(-11));
        due("agree(0, 1, 0): just so", x.agree(0, 1, 0), 1);
        due("agree(1, 0, 0)", x.agree(1, 0, 0), 1);
        due("agree(0, 2, 0)", x.agree(0, 2, 0), 0);
        x.factor(1);
        due("agree(0, 1, 0), K 1", x.agree(0, 1, 0), 0);
        x.factor(3);
        due("agree(0, 2, 0), K 3", x.agree(0, 2, 0), 1);
        due("agree(0, 3, 0)", x.agree(0, 3, 0), -3);
        due("agree(3, 0, 0)", x.agree(3, 0, 0), -3);
        due("agree(0, 0, 0)", x.agree(0, 0, 0), -2);
        due("agree(3, 3, 0)", x.agree(3, 3, 0), -2);
        due("agree(0, 4, 0)", x.agree(0, 4, 0), -2);
        due("agree(-1, 0, 0)", x.agree(-1, 0, 0), -2);
        due("agree(0, 3, 4)", x.agree(0, 3, 4), -2);
        due("agree(0, 1, -1)", x.agree(0, 1, -1), -2);
    }

    private static void promise15() {
        SentRound x = withHouses(0, 0, 0, 0, 0);
        due("agreeing(0), none", x.agreeing(0), 0);
        for (int h = 0; h < 5; h++) x.doubt(h, 1);
        readAll(x, 0, row(0), row(2), row(4), row(2000), row());
        due("agreeing(0): 0 and 1, or 1 and 2", x.agreeing(0), 3);
        x.doubt(1, 2);
        x.doubt(2, 2);
        readAll(x, 1, row(0), row(100), row(105), row(200), row(201));
        due("agreeing(1): 1 and 2, or 3 and 4", x.agreeing(1), 6);
        readAll(x, 2, row(0), row(100), row(200), row(202), row(201));
        due("agreeing(2): the last three", x.agreeing(2), 28);
        readAll(x, 3, row(), row(), row(0), row(10000));
        due("agreeing(3): one alone", x.agreeing(3), 4);
        for (int p : row(-1, 4, NO_INT, MAX)) due("agreeing(" + p + ")", x.agreeing(p), -2);
    }

    private static void promise16() {
        SentRound x = withHouses(0, 0, 0);
        x.factor(1);
        due("common(0, 0), none", x.common(0, 0), 0);
        due("common(0, 1), none", x.common(0, 1), NOT_INT);
        for (int h = 0; h < 3; h++) x.doubt(h, 1);
        readAll(x, 0, row(2), row(0), row(5));
        due("common(0, 0): two touch", x.common(0, 0), 2);
        due("common(0, 1)", x.common(0, 1), 1000);
        x.doubt(2, 10);
        due("common(0, 0)", x.common(0, 0), 3);
        due("common(0, 1)", x.common(0, 1), 1000);
        readAll(x, 1, row(3), row(0), row());
        due("common(1, 0): each alone", x.common(1, 0), 1);
        due("common(1, 1)", x.common(1, 1), -1000);
        for (int p : row(-1, 4, NO_INT, MAX)) due("common(" + p + ", 0)", x.common(p, 0), NO_INT);
        for (int what : row(-1, 2, NO_INT, MAX)) due("common(0, " + what + ")", x.common(0, what), NO_INT);
        due("common(3, 2), none", x.common(3, 2), NO_INT);
    }

    /** 0 and 1 in piece 0, 1 and 4 in 1, 0 and 2 in 2, 2 and 4 in 3; 3 and 5 in none. */
    private static SentRound square() {
        SentRound x = withHouses(0, 0, 0, 0, 0, 0);
        readAll(x, 0, row(1), row(1));
        readAll(x, 1, row(), row(1), row(), row(), row(1));
        readAll(x, 2, row(1), row(), row(1));
        readAll(x, 3, row(), row(), row(1), row(), row(1));
        return x;
    }

    private static void promise17() {
        SentRound x = square();
        due("chain(0, 1)", x.chain(0, 1), 200);
        due("chain(0, 4)", x.chain(0, 4), 300);
        x.doubt(1, 1000);
        due("chain(0, 4), by 2", x.chain(0, 4), 300);
        due("chain(0, 1), by 1 alone", x.chain(0, 1), 1000100);
        x.doubt(2, 20);
        due("chain(4, 0)", x.chain(4, 0), 600);
        due("chain(0, 3)", x.chain(0, 3), -1);
        due("chain(5, 3)", x.chain(5, 3), -1);
        due("chain(0, 0)", x.chain(0, 0), -2);
        for (int h : row(-1, 6, NO_INT, MAX)) {
            due("chain(0, " + h + ")", x.chain(0, h), -2);
            due("chain(" + h + ", 0)", x.chain(h, 0), -2);
        }
        x.pass(1);
        x.takeBack(5);
        due("chain(0, 4), 2 took part in 2 no more", x.chain(0, 4), 1000200);
        x.asOf(0);
        due("chain(0, 4), as of the day before", x.chain(0, 4), 600);
    }

    private static void promise18() {
        SentRound x = square();
        due("via(0, 4): of like ones the least", x.via(0, 4), 1);
        due("via(4, 0)", x.via(4, 0), 1);
        x.doubt(1, 11);
        due("via(0, 4)", x.via(0, 4), 2);
        due("via(0, 1)", x.via(0, 1), 1);
        due("via(1, 2)", x.via(1, 2), 0);
        x.doubt(0, 12);
        due("via(1, 2)", x.via(1, 2), 4);
        due("via(0, 3)", x.via(0, 3), -1);
        due("via(3, 5)", x.via(3, 5), -1);
        due("via(0, 0)", x.via(0, 0), -2);
        for (int h : row(-1, 6, NO_INT, MAX)) {
            due("via(0, " + h + ")", x.via(0, h), -2);
            due("via(" + h + ", 0)", x.via(h, 0), -2);
        }
    }

    private static void promise19() {
        SentRound x = withHouses(0, 0, 0);
        for (int rule = 0; rule < 4; rule++) number(x, 0, rule, NOT_LONG, NOT_LONG);
        readAll(x, 0, row(0), row(0, 0, 1));
        number(x, 0, 0, 333, 2);
        number(x, 0, 1, 333, 2);
        readAll(x, 0, row(), row(), row(1));
        number(x, 0, 0, 333, 1);
        number(x, 0, 1, 833, 2);
        readAll(x, 1, row(0), row(1), row());
        x.doubt(1, 3);
        number(x, 1, 2, 11111111000L, 12111111);
        readAll(x, 2, row(0, 0, -1), row(0), row());
        number(x, 2, 0, -333, 2);
        number(x, 2, 3, -167, 1);
        readAll(x, 3, row(0), row(0), row(20));
        number(x, 3, 0, 0, 1);
        number(x, 3, 3, 0, 1);
        steps();
        for (int p : row(-1, 4, NO_INT, MAX)) number(x, p, 0, BAD_LONG, BAD_LONG);
        for (int rule : row(-1, 4, NO_INT, MAX)) number(x, 0, rule, BAD_LONG, BAD_LONG);
        for (int what : row(-1, 2, NO_INT, MAX)) due("number(0, 0, " + what + ")", x.number(0, 0, what), BAD_LONG);
        due("number(0, 4, 0), none", new SentRound().number(0, 4, 0), BAD_LONG);
    }

    /**
     * Told 0, 10000, 40000: X 10000, S 14830, so 40000 is clipped to 32245, and X is 14081;
     * Q 272430009 * 1.286 = 350344991, S 18717: nothing is clipped any more, X is 16666.
     */
    private static void steps() {
        SentRound x = withHouses(0, 0, 0, 0, 0);
        readAll(x, 0, row(0), row(10), row(40));
        number(x, 0, 3, 16666, 1);
        readAll(x, 1, row(), row(-7));
        number(x, 1, 3, -7000, 1);
        readAll(x, 2, row(-20000), row(20000));
        number(x, 2, 3, 0, 1);
        // reckoned outside of Java; 9 or 11 steps, 1484 or 1287 would give others
        x = withHouses(0, 0, 0, 0, 0, 0, 0);
        readAll(x, 0, row(0), row(1), row(3), row(7), row(30), row(200), row(2000));
        number(x, 0, 3, 37206, 1);
        readAll(x, 1, row(12), row(-7), row(100), row(250), row(-900), row(31));
        number(x, 1, 3, 22779, 1);
    }

    private static void promise20() {
        SentRound x = withHouses(0, 0, 0, 0);
        readAll(x, 0, row(0), row(0), row(3));
        readAll(x, 1, row(0), row(0), row(-3));
        due("mark(2, 0)", x.mark(2, 0), 30);
        x.doubt(2, 7);
        due("mark(2, 0), cut", x.mark(2, 0), 42);
        due("mark(2, 1), cut toward 0", x.mark(2, 1), -42);
        due("mark(0, 0)", x.mark(0, 0), 0);
        due("mark(3, 0)", x.mark(3, 0), NOT_INT);
        due("mark(0, 2)", x.mark(0, 2), NOT_INT);
        for (int h : row(-1, 4, NO_INT, MAX)) due("mark(" + h + ", 0)", x.mark(h, 0), NO_INT);
        for (int p : row(-1, 4, NO_INT, MAX)) due("mark(0, " + p + ")", x.mark(0, p), NO_INT);
    }

    private static void promise21() {
        SentRound x = withHouses(0, 0, 0, 0);
        x.doubt(2, 100);
        int[] values = {200, -201, 300, -301};
        int[] judgements = {0, 1, 1, 2};
        for (int p = 0; p < 4; p++) {
            readAll(x, p, row(0), row(0), row(values[p]));
            due("mark(2, " + p + ")", x.mark(2, p), values[p]);
            due("judged(2, " + p + ")", x.judged(2, p), judgements[p]);
        }
        due("judged(3, 0)", x.judged(3, 0), -3);
        for (int h : row(-1, 4, NO_INT, MAX)) due("judged(" + h + ", 0)", x.judged(h, 0), -2);
        for (int p : row(-1, 4, NO_INT, MAX)) due("judged(0, " + p + ")", x.judged(0, p), -2);
    }

    private static int runOf(int doubt, Integer... values) {
        SentRound x = withHouses(0, 0, 0);
        x.doubt(2, doubt);
        for (int p = 0; p < values.length; p++) {
            readAll(x, p, row(0), row(0), values[p] == null ? row() : row(values[p]));
        }
        return x.run(2);
    }

    private static void promise22() {
        due("run over all", runOf(1, 1, 2, 3, 4), 4);
        due("run, none", runOf(1, null, null, null, null), 0);
        due("run, a piece left out", runOf(1, 1, 2, null, 3), 3);
        due("run, below", runOf(1, 1, -1, -1, 1), 2);
        due("run, a 0 between", runOf(1, 1, 1, 0, 1), 2);
        due("run, side by side", runOf(1, 1, -1, 1, -1), 1);
        due("run, a mark that is cut to 0", runOf(1000, 50, 5, 50, 50), 2);
        due("run, all cut to 0", runOf(1000, 5, 5, 5, 5), 0);
        SentRound x = withHouses(0);
        for (int h : row(-1, 1, NO_INT, MAX)) due("run(" + h + ")", x.run(h), -2);
    }

    private static void promise23() {
        SentRound x = withHouses(0, 0, 0);
        x.pass(10);
        x.reading(0, 0, 0, 0);
        x.reading(0, 0, 2, 1);
        x.reading(1, 0, 1, 1);
        due("within(1, 0, 0), one alone", x.within(1, 0, 0), NOT_LONG);
        x.reading(1, 0, 1, 0);
        due("within(1, 0, 0): 500 and -500 are 1 and 0", x.within(1, 0, 0), 1);
        due("within(1, 0, 1)", x.within(1, 0, 1), 2);
        due("within(0, 0, 0)", x.within(0, 0, 0), 0);
        due("within(0, 0, 1)", x.within(0, 0, 1), 1);
        readAll(x, 1, row(), row(1, 2, 4));
        due("within(1, 1, 0)", x.within(1, 1, 0), 7);
        due("within(1, 1, 1)", x.within(1, 1, 1), 3);
        due("within(2, 0, 1)", x.within(2, 0, 1), NOT_LONG);
        for (int h : row(-1, 3, NO_INT, MAX)) due("within(" + h + ", 0, 0)", x.within(h, 0, 0), BAD_LONG);
        for (int p : row(-1, 4, NO_INT, MAX)) due("within(0, " + p + ", 0)", x.within(0, p, 0), BAD_LONG);
        for (int what : row(-1, 2, NO_INT, MAX)) due("within(0, 0, " + what + ")", x.within(0, 0, what), BAD_LONG);
    }

    private static void promise24() {
        SentRound x = withHouses(0, 0, 0, 0);
        due("widest(0)", x.widest(0), -1);
        readAll(x, 0, row(5), row(1, 1));
        due("widest(0), with 0", x.widest(0), 1);
        readAll(x, 0, row(), row(), row(0, 2), row(0, 2));
        due("widest(0): of like ones the first", x.widest(0), 2);
        readAll(x, 1, row(0, 3), row(0, 0, 0, 4), row(0, 0, 0, 0, 6));
        due("widest(1): 9/2, 4, 36/5", x.widest(1), 2);
        for (int p : row(-1, 4, NO_INT, MAX)) due("widest(" + p + ")", x.widest(p), -2);
    }

    private static void promise25() {
        SentRound x = withHouses(0, 0, 0);
        due("share(0, 0)", x.share(0, 0), NOT_LONG);
        readAll(x, 0, row(0, 3), row(0, 0, 0, 4), row(7));
        due("share(0, 0): 9/2 of 17/2", x.share(0, 0), 9);
        due("share(0, 1)", x.share(0, 1), 17);
        readAll(x, 1, row(7, 7), row(8, 8));
        due("share(1, 0): 0", x.share(1, 0), 0);
        due("share(1, 1)", x.share(1, 1), 1);
        readAll(x, 2, row(7, 9), row(8));
        due("share(2, 0): one alone", x.share(2, 0), 1);
        due("share(2, 1)", x.share(2, 1), 1);
        readAll(x, 3, row(7), row(8));
        due("share(3, 1)", x.share(3, 1), NOT_LONG);
        for (int p : row(-1, 4, NO_INT, MAX)) due("share(" + p + ", 0)", x.share(p, 0), BAD_LONG);
        for (int what : row(-1, 2, NO_INT, MAX)) due("share(3, " + what + ")", x.share(3, what), BAD_LONG);
    }

    private static void promise26() {
        SentRound x = withHouses(0, 0, 0);
        due("parts(0, 0, 0), none", x.parts(0, 0, 0), NOT_LONG);
        readAll(x, 0, row(0, 1, 2), row(3, 5, 5));
        due("parts(0, 0, 0): the mean of 1 and 4/3", x.parts(0, 0, 0), 7);
        due("parts(0, 0, 1)", x.parts(0, 0, 1), 6);
        due("parts(0, 1, 0): 50/9 less 7/18", x.parts(0, 1, 0), 31);
        due("parts(0, 1, 1)", x.parts(0, 1, 1), 6);
        readAll(x, 1, row(0, 10), row(1, 9));
        due("parts(1, 1, 0): below 0", x.parts(1, 1, 0), 0);
        due("parts(1, 1, 1)", x.parts(1, 1, 1), 1);
        due("parts(1, 0, 0)", x.parts(1, 0, 0), 41);
        readAll(x, 1, row(), row(), row(4));
        due("parts(1, 0, 0), a third with one", x.parts(1, 0, 0), NOT_LONG);
        readAll(x, 2, row(1), row(2));
        due("parts(2, 0, 0), one each", x.parts(2, 0, 0), NOT_LONG);
        readAll(x, 3, row(1, 2));
        due("parts(3, 0, 0), one house", x.parts(3, 0, 0), NOT_LONG);
        for (int p : row(-1, 4, NO_INT, MAX)) due("parts(" + p + ", 0, 0)", x.parts(p, 0, 0), BAD_LONG);
        for (int part : row(-1, 2, NO_INT, MAX)) due("parts(3, " + part + ", 0)", x.parts(3, part, 0), BAD_LONG);
        for (int what : row(-1, 2, NO_INT, MAX)) due("parts(3, 0, " + what + ")", x.parts(3, 0, what), BAD_LONG);
    }

    private static void promise27() {
        SentRound x = withHouses(0, 0, 1, 1, 1);
        readAll(x, 0, row(1), row(2), row(3), row(4));
        due("ways(0, 0)", x.ways(0, 0), 2);
        due("ways(0, 1)", x.ways(0, 1), 2);
        due("ways(0, 2): one of 6", x.ways(0, 2), 166666);
        readAll(x, 1, row(4), row(3), row(2), row(1));
        due("ways(1, 2): all", x.ways(1, 2), 1000000);
        readAll(x, 2, row(1), row(1));
        due("ways(2, 1)", x.ways(2, 1), 0);
        due("ways(2, 2), none of way 1", x.ways(2, 2), -3);
        readAll(x, 3, row(), row(), row(1));
        due("ways(3, 2), none of way 0", x.ways(3, 2), -3);
        for (int p : row(-1, 4, NO_INT, MAX)) due("ways(" + p + ", 0)", x.ways(p, 0), -2);
        for (int what : row(-1, 3, NO_INT, MAX)) due("ways(0, " + what + ")", x.ways(0, what), -2);
        closeWays();
        fullWays();
    }

    /** Told 0, -166 (of way 1) and -167: two of the three reach -166. */
    private static void closeWays() {
        SentRound x = withHouses(0, 1, 0);
        x.pass(3);
        x.reading(0, 0, 0, 0);
        x.reading(0, 0, 3, 1);
        x.reading(1, 0, 0, 0);
        x.reading(1, 0, 1, 0);
        for (int v : row(-1, 0, 0, 0, 0, 0)) x.reading(2, 0, 0, v);
        due("told(1, 0)", x.told(1, 0), -166);
        due("told(2, 0)", x.told(2, 0), -167);
        due("ways(0, 2)", x.ways(0, 2), 666666);
    }

    private static void fullWays() {
        SentRound x = withHouses(0, 0, 0, 0, 0, 0, 0, 0, 0, 0, 0, 0, 0, 1);
        for (int h = 0; h < 14; h++) x.reading(h, 0, 0, h);
        due("ways(0, 0)", x.ways(0, 0), 13);
        due("ways(0, 2), 14", x.ways(0, 2), -4);
        x.takeBack(0);
        due("ways(0, 2), 13: one of 13", x.ways(0, 2), 76923);
        x = withHouses(1, 1, 1, 1, 1, 1, 1, 1, 1, 1, 1, 1, 1, 1);
        for (int h = 0; h < 14; h++) x.reading(h, 0, 0, h);
        due("ways(0, 2), 14 of one way", x.ways(0, 2), -3);
    }

    private static void promise28() {
        SentRound x = withHouses(0, 1, 1);
        due("score(0)", x.score(0), 0);
        readAll(x, 0, row(5), row(-7), row(3));
        due("score(0)", x.score(0), -4000);
        for (int p : row(-1, 4, NO_INT, MAX)) due("score(" + p + ")", x.score(p), Long.MIN_VALUE);
    }

    private static void promise29() {
        SentRound x = new SentRound();
        for (int b : row(-1, 256, NO_INT, MAX)) due("type(" + b + ")", x.type(b), -2);
        for (int i = 1; i <= 60; i++) due("type", x.type(i == 1 ? 0 : i == 2 ? 255 : '1'), i);
        due("type(49)", x.type('1'), -4);
        due("type(256)", x.type(256), -2);
        due("count(9)", x.count(9), 60);
    }

    private static void promise30() {
        SentRound x = new SentRound();
        due("wipe()", x.wipe(), 0);
        typed(x, "1+x");
        due("wipe()", x.wipe(), 3);
        due("count(9)", x.count(9), 0);
        due("type(49)", x.type('1'), 1);
        due("fault()", x.fault(), -1);
    }

    private static void faultOf(String text, int want) {
        SentRound x = new SentRound();
        typed(x, text);
        due("fault() of " + text, x.fault(), want);
        due("reckon() of " + text + " is NOT", x.reckon() == -3 ? 1 : 0, want == -1 ? 0 : 1);
    }

    private static void promise31() {
        String[] right = {"0", "000", "7", "999", "1+2+3", "1*2/3*4", "0*5/7", "5/001", "100*100*10", "1/100/100/10",
            "999/3/3/3*999", "999*100/999*999", "0*999*999*999", "100*100*10+100*100*10"};
        for (String text : right) faultOf(text, -1);
        faultOf("", 0);
        faultOf("+", 0);
        faultOf("x", 0);
        faultOf("1+", 2);
        faultOf("1*", 2);
        faultOf("1/", 2);
        faultOf("1 ", 1);
        faultOf("1++2", 2);
        faultOf("1*/2", 2);
        faultOf("1-2", 1);
        faultOf("1234", 3);
        faultOf("1*2345", 5);
        faultOf("12/0", 3);
        faultOf("12/000", 3);
        faultOf("12/0001", 3);
        faultOf("1+0/0", 4);
        faultOf("100*101*10", 8);
        faultOf("1/100/101/10", 10);
        faultOf("999*101", 4);
        faultOf("999*999/999", 4);
        faultOf("5+999*999x", 6);
        SentRound x = new SentRound();
        typed(x, "1+");
        x.type(178);
        due("fault() behind byte 178", x.fault(), 2);
    }

    private static void reckonOf(String text, int want) {
        SentRound x = new SentRound();
        typed(x, text);
        due("reckon() of " + text, x.reckon(), want);
    }

    private static void promise32() {
        reckonOf("", -3);
        reckonOf("5+", -3);
        reckonOf("0", 1);
        reckonOf("1/999", 1);
        reckonOf("1", 1);
        reckonOf("1+0", 1);
        reckonOf("1+1/999", 2);
        reckonOf("3+4", 5);
        reckonOf("3+4+1/100", 6);
        reckonOf("999", 999);
        reckonOf("999+1", 1000);
        reckonOf("999+44", 1000);
        reckonOf("999+45", 1000);
        reckonOf("100*10", 1000);
        reckonOf("100*100*10", 1000);
        // 10000 times 1/9 is 1111.1, each rounded up to 1112: nine of them are above 10000
        reckonOf("1/3+1/3+1/3+1/3+1/3+1/3+1/3+1/3+1/3", 2);
        reckonOf("1/2+1/2+1/2+1/2", 1);
    }

    private static void promise33() {
        SentRound x = withHouses(0, 0);
        due("claim(0), no text", x.claim(0), -3);
        due("claim(2), no text", x.claim(2), -2);
        typed(x, "6+8");
        due("claim(0)", x.claim(0), 10);
        due("claim(0)", x.claim(0), 10);
        typed(x, "30");
        due("claim(1)", x.claim(1), 10);
        due("doubt(1, 1)", x.doubt(1, 1), 30);
        for (int h : row(-1, 2, NO_INT, MAX)) due("claim(" + h + ")", x.claim(h), -2);
        typed(x, "30/0");
        due("claim(1), a fault", x.claim(1), -3);
        due("doubt(1, 2)", x.doubt(1, 2), 1);
    }

    private static void promise34() {
        SentRound x = new SentRound();
        due("sheet(0, 0, 0)", x.sheet(0, 0, 0), 0);
        due("sheet(3, 2, 60)", x.sheet(3, 2, 60), 60);
        x.put(3, 2, 5, 9);
        due("sheet(3, 1, 60)", x.sheet(3, 1, 60), 60);
        due("get(3, 1, 5) is new", x.get(3, 1, 5), 0);
        for (int s : row(-1, 4, NO_INT, MAX)) due("sheet(" + s + ", 0, -1)", x.sheet(s, 0, -1), -2);
        for (int t : row(-1, 3, NO_INT, MAX)) due("sheet(0, " + t + ", -1)", x.sheet(0, t, -1), -2);
        due("sheet(0, 0, 61)", x.sheet(0, 0, 61), -2);
        due("sheet(0, 0, MAX)", x.sheet(0, 0, MAX), -2);
        due("count(8)", x.count(8), 0);
        due("sheet(3, 0, -1)", x.sheet(3, 0, -1), -15);
        due("sheet(3, 0, least)", x.sheet(3, 0, NO_INT), -15);
        due("count(8)", x.count(8), 5);
        due("lose(3) is as it was", x.lose(3), 60);
    }

    private static void promise35() {
        SentRound x = new SentRound();
        x.sheet(1, 0, 7);
        for (int s : row(-1, 4, NO_INT, MAX)) due("lose(" + s + ")", x.lose(s), -2);
        due("count(8)", x.count(8), 0);
        due("lose(1)", x.lose(1), 7);
        due("lose(1)", x.lose(1), -11);
        due("count(8)", x.count(8), 1);
        x.sheet(1, 0, 0);
        due("lose(1), empty", x.lose(1), 0);
    }

    private static void promise36() {
        SentRound x = new SentRound();
        due("put(0, 0, 0, 1)", x.put(0, 0, 0, 1), -11);
        filled(x, 0, 0, 128, -129, 255, 256);
        items(x, 0, 0, -128, 127, -1, 0);
        filled(x, 1, 1, 32768, -32769, 65535, 65536);
        items(x, 1, 1, -32768, 32767, -1, 0);
        filled(x, 2, 2, MAX, NO_INT);
        items(x, 2, 2, MAX, NO_INT);
        due("put(0, 0, 3, 1)", x.put(0, 0, 3, 1), 1);
        due("put(0, 0, 4, 1)", x.put(0, 0, 4, 1), -12);
        due("count(8)", x.count(8), 2);
        due("put(0, 1, 4, 1): CAST first", x.put(0, 1, 4, 1), -13);
        due("count(8)", x.count(8), 3);
        due("put(0, 0, -1, 1)", x.put(0, 0, -1, 1), -12);
        due("put(0, 0, least, 1)", x.put(0, 0, NO_INT, 1), -12);
        for (int s : row(-1, 4, NO_INT, MAX)) due("put(" + s + ", 0, 0, 1)", x.put(s, 0, 0, 1), -2);
        for (int t : row(-1, 3, NO_INT, MAX)) due("put(3, " + t + ", 0, 1)", x.put(3, t, 0, 1), -2);
        due("count(8)", x.count(8), 2);
    }

    private static void promise37() {
        SentRound x = new SentRound();
        for (int s : row(-1, 4, NO_INT, MAX)) due("get(" + s + ", 0, 0)", x.get(s, 0, 0), NO_INT);
        for (int t : row(-1, 3, NO_INT, MAX)) due("get(0, " + t + ", 0)", x.get(0, t, 0), NO_INT);
        due("count(8)", x.count(8), 0);
        due("get(0, 0, 0), lost", x.get(0, 0, 0), NO_INT);
        due("count(8)", x.count(8), 1);
        filled(x, 0, 1, 5, -6);
        due("get(0, 1, 1)", x.get(0, 1, 1), -6);
        due("get(0, 1, 2)", x.get(0, 1, 2), NO_INT);
        due("count(8)", x.count(8), 2);
        due("get(0, 0, 2)", x.get(0, 0, 2), NO_INT);
        due("count(8)", x.count(8), 3);
        due("get(0, 1, -1)", x.get(0, 1, -1), NO_INT);
        due("count(8)", x.count(8), 2);
    }

    private static void promise38() {
        SentRound x = new SentRound();
        filled(x, 0, 2, 1, 2, 3, 4, 5);
        due("copy(0, 0, 0, 1, 4)", x.copy(0, 0, 0, 1, 4), 1);
        items(x, 0, 2, 1, 1, 2, 3, 4);
        due("copy(0, 2, 0, 0, 3)", x.copy(0, 2, 0, 0, 3), 1);
        items(x, 0, 2, 2, 3, 4, 3, 4);
        due("copy to a lost one", x.copy(0, 0, 1, 0, 1), -11);
        due("copy of a lost one", x.copy(1, -1, 0, 0, 1), -11);
        filled(x, 1, 2, 9, 9, 9);
        due("copy(0, 3, 1, 1, 2)", x.copy(0, 3, 1, 1, 2), 1);
        items(x, 1, 2, 9, 3, 4);
        due("copy(0, 5, 1, 3, 0): nothing", x.copy(0, 5, 1, 3, 0), 1);
        due("copy(0, 6, 1, 0, 0)", x.copy(0, 6, 1, 0, 0), -12);
        due("copy(0, 0, 1, 4, 0)", x.copy(0, 0, 1, 4, 0), -12);
        due("copy(0, 0, 1, 0, 4)", x.copy(0, 0, 1, 0, 4), -12);
        due("copy(0, 3, 1, 0, 3)", x.copy(0, 3, 1, 0, 3), -12);
        due("copy(0, -1, 1, 0, 1)", x.copy(0, -1, 1, 0, 1), -12);
        due("copy(0, 0, 1, -1, 1)", x.copy(0, 0, 1, -1, 1), -12);
        due("copy(0, 0, 1, 0, -1)", x.copy(0, 0, 1, 0, -1), -12);
        due("copy(0, MAX, 1, 0, MAX)", x.copy(0, MAX, 1, 0, MAX), -12);
        due("copy(0, 1, 1, 1, MAX)", x.copy(0, 1, 1, 1, MAX), -12);
        x.sheet(2, 1, 5);
        due("copy(0, -1, 2, 0, 1): STORE first", x.copy(0, -1, 2, 0, 1), -14);
        due("count(8)", x.count(8), 4);
        for (int s : row(-1, 4, NO_INT, MAX)) {
            due("copy(" + s + ", 0, 3, 0, 1)", x.copy(s, 0, 3, 0, 1), -2);
            due("copy(3, 0, " + s + ", 0, 1)", x.copy(3, 0, s, 0, 1), -2);
        }
        items(x, 1, 2, 9, 3, 4);
    }

    private static void promise39() {
        SentRound x = withHouses(0, 0, 0);
        readAll(x, 1, row(1), row(), row(70));
        due("write(1, 0)", x.write(1, 0), -11);
        filled(x, 0, 2, 9, 9, 9, 9);
        due("write(1, 0)", x.write(1, 0), 3);
        items(x, 0, 2, 1000, 0, 70000, 9);
        filled(x, 1, 1, 9, 9, 9);
        due("write(1, 1) to shorts", x.write(1, 1), 3);
        items(x, 1, 1, 1000, 0, 70000 - 65536);
        filled(x, 2, 0, 9);
        due("write(1, 2) to one byte", x.write(1, 2), 1);
        items(x, 2, 0, 1000 - 1024);
        x.sheet(2, 0, 0);
        due("write(1, 2) to none", x.write(1, 2), 0);
        due("write(0, 0), none takes part", x.write(0, 0), 3);
        items(x, 0, 2, 0, 0, 0, 9);
        for (int p : row(-1, 4, NO_INT, MAX)) due("write(" + p + ", 3)", x.write(p, 3), -2);
        for (int s : row(-1, 4, NO_INT, MAX)) due("write(0, " + s + ")", x.write(0, s), -2);
    }

    private static void promise40() {
        SentRound x = withHouses(0, 1, 0);
        x.pass(3);
        readAll(x, 0, row(1, 2), row(3), row(4));
        readAll(x, 1, row(), row(3), row(4));
        readAll(x, 3, row(), row(), row(4));
        x.takeBack(2);
        x.factor(4);
        typed(x, "1+1");
        x.lose(0);
        x.sheet(0, 0, -5);
        int[] counts = {3, 3, 7, 6, 2, 2, 0, 1, 5, 3, 4};
        for (int what = 0; what <= 10; what++) due("count(" + what + ")", x.count(what), counts[what]);
        for (int what : row(-1, 11, NO_INT, MAX)) due("count(" + what + ")", x.count(what), -2);
        x.pass(1);
        x.asOf(2);
        due("count(3), as of the day before", x.count(3), 0);
        due("count(4)", x.count(4), 0);
        due("count(2)", x.count(2), 7);
    }

    private static long digestOf(SentRound x, int houses, int... doubts) {
        long h = 17;
        for (int what = 0; what <= 10; what++) if (what != 8) h = 31 * h + x.count(what);
        for (int house = 0; house < houses; house++) {
            h = 31 * h + doubts[house];
            for (int p = 0; p < 4; p++) h = 31 * h + x.told(house, p);
        }
        for (int p = 0; p < 4; p++) {
            h = 31 * h + x.agreeing(p);
            h = 31 * h + x.common(p, 0);
            for (int i = 0; i < 8; i++) {
                long n = x.number(p, i / 2, i % 2);
                h = 31 * h + (n == NOT_LONG ? -3 : n);
            }
            h = 31 * h + x.widest(p);
        }
        return 31 * h + x.fault();
    }

    private static void promise41() {
        SentRound x = new SentRound();
        long h = 17;
        int[] counts = {0, 0, 0, 0, 0, 0, 0, 0, 0, 2};
        for (int c : counts) h = 31 * h + c;
        int[] ofPiece = {0, 0, -3, -3, -3, -3, -3, -3, -3, -3, -1};
        for (int p = 0; p < 4; p++) for (int c : ofPiece) h = 31 * h + c;
        due("digest() of a new object", x.digest(), 31 * h);
        x = withHouses(0, 1, 0);
        x.doubt(1, 77);
        readAll(x, 0, row(-1, 2), row(3), row(4, -90, 7));
        readAll(x, 2, row(), row(3), row(4));
        typed(x, "5/0");
        due("digest()", x.digest(), digestOf(x, 3, 10, 77, 10));
        long before = x.digest();
        x.lose(0);
        due("digest() behind a finding", x.digest(), before);
    }

    private static void constants() {
        due("NONE", SentRound.NONE, -1);
        due("BAD", SentRound.BAD, -2);
        due("NOT", SentRound.NOT, -3);
        due("FULL", SentRound.FULL, -4);
    }

    public static void main(String[] args) {
        Runnable[] promises = {
            PromiseTest::constants, PromiseTest::promise1, PromiseTest::promise2, PromiseTest::promise3,
            PromiseTest::promise4, PromiseTest::promise5, PromiseTest::promise6, PromiseTest::promise7,
            PromiseTest::promise8, PromiseTest::promise9, PromiseTest::promise10, PromiseTest::promise11,
            PromiseTest::promise12, PromiseTest::promise13, PromiseTest::promise14, PromiseTest::promise15,
            PromiseTest::promise16, PromiseTest::promise17, PromiseTest::promise18, PromiseTest::promise19,
            PromiseTest::promise20, PromiseTest::promise21, PromiseTest::promise22, PromiseTest::promise23,
            PromiseTest::promise24, PromiseTest::promise25, PromiseTest::promise26, PromiseTest::promise27,
            PromiseTest::promise28, PromiseTest::promise29, PromiseTest::promise30, PromiseTest::promise31,
            PromiseTest::promise32, PromiseTest::promise33, PromiseTest::promise34, PromiseTest::promise35,
            PromiseTest::promise36, PromiseTest::promise37, PromiseTest::promise38, PromiseTest::promise39,
            PromiseTest::promise40, PromiseTest::promise41};
        for (promise = 0; promise < promises.length; promise++) promises[promise].run();
        System.out.println(asked + " answers asked, " + wrong + " wrong");
        if (wrong != 0) System.exit(1);
    }
}
