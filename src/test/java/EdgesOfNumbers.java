/**
 * Edges of the one number, of marks and runs: promises 19 to 22, and the terms that they use. What
 * RULE 3 answers to was reckoned outside of Java; what another reading would give stands behind it.
 */
final class EdgesOfNumbers extends EdgeCase {
    static void all() {
        middles();
        pairs();
        weights();
        stepsBegin();
        stepsClip();
        stepsGoOn();
        stepsAtTheEnds();
        refusedNumbers();
        marks();
        refusedMarks();
        judged();
        runs();
    }

    private static void middles() {
        edge(TERMS, "the one in the middle", () -> {
            SentRound x = many(13);
            x.reading(0, 0, 0, -7);
            number(x, 0, 0, -7000, 1);
            readOnce(x, 1, 9, -5, 2);
            number(x, 1, 0, 2000, 1);
            readOnce(x, 2, 12, 11, 10, 9, 8, 7, 6, 5, 4, 3, 2, 1, 0);
            number(x, 2, 0, 6000, 1);
        });
        edge(TERMS, "ONE NUMBER of a PIECE, of all HOUSES that TAKE PART", () -> {
            SentRound x = many(14);
            x.reading(3, 0, 0, 4);
            x.reading(9, 0, 0, 6);
            x.reading(13, 1, 0, 100);
            for (int rule = 0; rule < 4; rule++) number(x, 0, rule, 5000, 1);
            x.takeBack(1);
            for (int rule = 0; rule < 4; rule++) number(x, 0, rule, 4000, 1);
        });
        edge(TERMS, "the MIDDLE of what they TOLD: they lie in order", () -> {
            int[][] orders = {{1, 2, 9}, {1, 9, 2}, {2, 1, 9}, {2, 9, 1}, {9, 1, 2}, {9, 2, 1}};
            for (int[] order : orders) {
                SentRound x = many(3);
                readOnce(x, 0, order);
                number(x, 0, 0, 2000, 1);
                number(x, 0, 1, 3500, 1);
            }
        });
        edge(TERMS, "or the mean of the two there", () -> {
            SentRound x = many(14);
            readOnce(x, 0, 9, -5);
            number(x, 0, 0, 2000, 1);
            readOnce(x, 1, 13, 12, 11, 10, 9, 8, 7, 6, 5, 4, 3, 2, 1, 0);
            number(x, 1, 0, 6500, 1);
            number(telling(1), 0, 0, 1, 2);
            number(telling(3, 3, -2), 0, 0, 3, 2);
        });
        edge(TERMS, "FRACTIONS are told in lowest terms, above and below (0 by 1).", () -> {
            number(telling(-1), 0, 0, -1, 2);
            number(telling(-4), 0, 0, -2, 1);
            SentRound x = many(2);
            readOnce(x, 0, 7, -7);
            for (int rule = 0; rule < 4; rule++) number(x, 0, rule, 0, 1);
        });
    }

    private static void pairs() {
        edge(TERMS, "the MIDDLE of all means of two HOUSES' (each pair once, each HOUSE with itself, too)", () -> {
            SentRound x = many(14);
            x.reading(13, 0, 0, -7);
            number(x, 0, 1, -7000, 1);
            readOnce(x, 1, 0, 1, 4, 9, 16, 25, 36, 49, 64, 81, 100, 121, 144, 169);
            number(x, 1, 1, 54500, 1);
            // here the pairs of the last house lie on both sides of the middle, so each of the 105 counts
            readOnce(x, 2, -20000, -10000, -5000, 1, 4, 9, 16, 25, 36, 49, 64, 81, 100, 121);
            number(x, 2, 1, 18500, 1);
            readOnce(x, 3, -20000, 1, 4, 9, 16, 25, 36, 49, 64, 81, 100, 121, 144, 169);
            number(x, 3, 1, 50500, 1);
            number(telling(1), 0, 1, 1, 2);
            number(telling(0, 333), 0, 1, 333, 4);
            number(telling(0, -1), 0, 1, -1, 4);
            number(telling(1, 5, 7), 0, 1, 13, 4);
        });
    }

    private static SentRound twoWith(int firstDoubt, int first, int secondDoubt, int second) {
        SentRound x = many(2);
        x.doubt(0, firstDoubt);
        x.doubt(1, secondDoubt);
        readOnce(x, 0, first, second);
        return x;
    }

    private static void weights() {
        edge(TERMS, "the mean by weights 100000000 by the square of the DOUBT (cut)", () -> {
            number(twoWith(7, 1, 3, 0), 0, 2, 2040816000L, 13151927);
            number(twoWith(1, 0, 1000, 1), 0, 2, 1000, 1000001);
            number(twoWith(999, 0, 1000, 1), 0, 2, 500, 1);
            number(twoWith(1000, 1, 31, 0), 0, 2, 50000, 52079);
        });
        edge(TERMS, "all FRACTIONS. 3: by STEPS", () -> {
            SentRound x = many(14);
            for (int h = 0; h < 14; h++) x.doubt(h, 1);
            readOnce(x, 0, 0, 0, 1);
            number(x, 0, 2, 1000, 3);
            readOnce(x, 1, 0, 0, -1);
            number(x, 1, 2, -1000, 3);
            x.pass(1);
            x.reading(0, 2, 0, 20000);
            x.reading(0, 2, 1, -20000);
            for (int h = 1; h < 14; h++) x.reading(h, 2, 1, 20000);
            number(x, 2, 2, 400000000, 7);
        });
    }

    private static void steps(int want, int... told) {
        SentRound x = telling(told);
        number(x, 0, 3, want, 1);
    }

    private static void stepsBegin() {
        edge(TERMS, "X is the MIDDLE, rounded down", () -> {
            steps(-1, -1); // up, or toward 0: 0
            steps(0, 1);
        });
        edge(TERMS, "S is the MIDDLE of the amounts by which what they TOLD differs from X, times 1483 by 1000, rounded down", () -> {
            steps(0, 2, 3, -3); // the amounts' middle rounded down first: 1
            steps(1, -3, 3, 3); // to the nearest: 0
            steps(0, -2, 1); // up: -1
            steps(20, 84, 3, 34, 18, 19); // 1484: 21
            SentRound x = many(4);
            readOnce(x, 0, -20, 18, 13, 13);
            number(x, 0, 3, 7858, 1); // 1482: 7859
        });
    }

    private static void stepsClip() {
        edge(TERMS, "each of what they TOLD that is below X less 3 S by 2 (cut) is clipped to that", () -> {
            steps(0, -1, 0); // not clipped: -1
            steps(0, -2, 1); // 3 S by 2 rounded up: -1
            steps(-2, -6, 2); // 3 times (S by 2), or what was clipped before clipped again: -1
        });
        edge(TERMS, "each above X and that likewise", () -> {
            steps(0, 3, 0); // not clipped: 1
            steps(0, 2, -1); // left out, not clipped: -1
        });
        edge(TERMS, "X is the mean of these, rounded down", () -> {
            steps(-2, -3); // to the nearest, or toward 0: -1
            steps(1, 3);
        });
        edge(TERMS, "then 10 STEPS", () -> {
            steps(-2, 5, 4, -15); // 9: -1
            steps(0, -6, 17, -6); // 11: 1
            SentRound x = many(4);
            readOnce(x, 0, -4, -4, -3, 3);
            number(x, 0, 3, -2370, 1); // 9: -2507, 11: -2222
        });
    }

    private static void stepsGoOn() {
        edge(TERMS, "Q is the squares of their differences to X together by (how many less 1), cut", () -> {
            steps(-3, 6, -6, -4, -3); // to the X before, or not cut: -2
            steps(-1, 8, -6, -6); // to the mean that is not rounded: -2
            steps(2, 2, 2); // of what is not clipped: 1
            steps(1, 4, -4, 2); // rounded up: 0
            steps(-2, -6, 2); // by how many: -1
        });
        edge(TERMS, "then times 1286 by 1000, cut", () -> {
            steps(0, 4, -7, 6); // 1285: 1
            steps(2, 30, -10, -5); // 1287: 3
        });
        edge(TERMS, "S is the greatest number the square of which is not above Q", () -> {
            steps(0, 5, -2); // the least whose square is not below: 1
            steps(1, -3, 3, 3); // the nearest: 0
        });
    }

    private static void stepsAtTheEnds() {
        edge(TERMS, "(0, if there is one HOUSE alone)", () -> {
            SentRound x = many(14);
            x.reading(13, 0, 0, -20000);
            number(x, 0, 3, -20000000, 1);
            x.reading(0, 1, 0, 20000);
            number(x, 1, 3, 20000000, 1);
            x.reading(5, 2, 0, 0);
            number(x, 2, 3, 0, 1);
        });
        edge(TERMS, "X then (by 1).", () -> {
            SentRound x = many(14);
            x.pass(1);
            x.reading(0, 0, 0, 20000);
            x.reading(0, 0, 1, -20000);
            for (int h = 1; h < 8; h++) x.reading(h, 0, 0, -20000);
            for (int h = 8; h < 14; h++) x.reading(h, 0, 1, 20000);
            number(x, 0, 0, 0, 1);
            number(x, 0, 3, 17142857, 1);
            readOnce(x, 1, 0, 1, 4, 9, 16, 25, 36, 49, 64, 81, 100, 121, 144, 169);
            number(x, 1, 3, 56990, 1);
        });
    }

    private static void refusedNumbers() {
        edge(19, "ONE NUMBER by a RULE (0 to 3): above, below.", () -> {
            SentRound x = many(2);
            readAll(x, 3, row(0), row(0, 0, 1));
            number(x, 3, 0, 333, 2);
            number(x, 3, 3, 166, 1);
            due("number(3, 4, 0)", x.number(3, 4, 0), BAD_LONG);
            due("number(3, -1, 0)", x.number(3, -1, 0), BAD_LONG);
            due("number(3, 0, 2)", x.number(3, 0, 2), BAD_LONG);
            due("number(3, 0, -1)", x.number(3, 0, -1), BAD_LONG);
        });
        edge(19, "BAD", () -> {
            SentRound x = many(1);
            readOnce(x, 0, 5);
            for (int p : row(-1, 4)) due("number(" + p + ", 0, 0)", x.number(p, 0, 0), BAD_LONG);
            due("number(1, 4, 0), none takes part: BAD comes first", x.number(1, 4, 0), BAD_LONG);
            due("number(1, 0, 2), none takes part: BAD comes first", x.number(1, 0, 2), BAD_LONG);
            for (int w : WILD) {
                due("number(" + w + ", 0, 0)", x.number(w, 0, 0), BAD_LONG);
                due("number(0, " + w + ", 0)", x.number(0, w, 0), BAD_LONG);
                due("number(0, 0, " + w + ")", x.number(0, 0, w), BAD_LONG);
            }
        });
        edge(19, "NOT: none TAKES PART. (As the least long.)", () -> {
            SentRound x = many(1);
            for (int rule = 0; rule < 4; rule++) number(x, 0, rule, NOT_LONG, NOT_LONG);
            x.reading(0, 0, 0, 0);
            for (int rule = 0; rule < 4; rule++) number(x, 0, rule, 0, 1);
            x.takeBack(0);
            for (int rule = 0; rule < 4; rule++) number(x, 0, rule, NOT_LONG, NOT_LONG);
            number(new SentRound(), 0, 0, NOT_LONG, NOT_LONG);
        });
        edge(TERMS, "Where the answer is a long, a refusal -x is the least long and x more.", () -> {
            SentRound x = many(1);
            due("BAD", x.number(4, 0, 0), -9223372036854775806L);
            due("NOT", x.number(0, 0, 0), -9223372036854775805L);
        });
    }

    private static void marks() {
        edge(TERMS, "times 100, by (1000 times its DOUBT), cut toward 0.", () -> {
            int[] told = {9, 10, 19, 20, -9, -10, -19, -20};
            int[] marks = {0, 1, 1, 2, 0, -1, -1, -2};
            for (int i = 0; i < told.length; i++) {
                SentRound x = telling(0, told[i]);
                x.doubt(2, 1);
                due("mark(2, 0) of " + told[i], x.mark(2, 0), marks[i]);
            }
            SentRound y = telling(0, 9999, -9999);
            y.doubt(2, 1000);
            y.doubt(3, 1000);
            due("mark(2, 0), doubt 1000", y.mark(2, 0), 0);
            due("mark(3, 0), doubt 1000", y.mark(3, 0), 0);
            SentRound z = telling(0, 10000, -10000);
            z.doubt(2, 1000);
            z.doubt(3, 1000);
            due("mark(2, 0), doubt 1000", z.mark(2, 0), 1);
            due("mark(3, 0), doubt 1000", z.mark(3, 0), -1);
        });
        edge(TERMS, "MARK of a HOUSE: what it TOLD less RULE 3's number", () -> {
            SentRound x = many(3);
            readOnce(x, 0, 7, 7, 10);
            number(x, 0, 3, 7000, 1);
            due("mark(2, 0)", x.mark(2, 0), 30);
            due("mark(0, 0)", x.mark(0, 0), 0);
            readOnce(x, 1, -7, -7, -4);
            due("mark(2, 1)", x.mark(2, 1), 30);
            readOnce(x, 2, 0, 10, 40);
            number(x, 2, 3, 16666, 1);
            due("mark(0, 2)", x.mark(0, 2), -166);
            due("mark(2, 2)", x.mark(2, 2), 233);
        });
        edge(20, "MARK.", () -> {
            SentRound x = many(14);
            for (int h = 0; h < 14; h++) x.doubt(h, 1);
            x.pass(1);
            x.reading(0, 3, 0, 20000);
            x.reading(0, 3, 1, -20000);
            for (int h = 1; h < 13; h++) x.reading(h, 3, 0, -20000);
            x.reading(13, 3, 1, 20000);
            due("mark(13, 3), the most that can be", x.mark(13, 3), 8000000);
            due("mark(1, 3)", x.mark(1, 3), 0);
        });
    }

    private static void refusedMarks() {
        edge(20, "BAD: the least int", () -> {
            due("mark(0, 0) without houses", new SentRound().mark(0, 0), BAD_INT);
            SentRound x = many(2);
            x.reading(0, 0, 0, 1);
            for (int h : row(-1, 2)) due("mark(" + h + ", 0)", x.mark(h, 0), BAD_INT);
            for (int p : row(-1, 4)) due("mark(1, " + p + "): BAD comes first", x.mark(1, p), BAD_INT);
            for (int w : WILD) {
                due("mark(" + w + ", 0)", x.mark(w, 0), BAD_INT);
                due("mark(0, " + w + ")", x.mark(0, w), BAD_INT);
            }
        });
        edge(20, "NOT: it does not TAKE PART: the least int and 1.", () -> {
            SentRound x = many(2);
            x.reading(0, 0, 0, 1);
            due("mark(1, 0), another takes part", x.mark(1, 0), NOT_INT);
            due("mark(0, 1), none takes part", x.mark(0, 1), NOT_INT);
            due("mark(0, 0), alone", x.mark(0, 0), 0);
            x.takeBack(0);
            due("mark(0, 0), taken back", x.mark(0, 0), NOT_INT);
        });
    }

    /** Of a house with doubt 1000 that read the value beside two that read 0. */
    private static void judgedOf(int value, int mark, int judgement) {
        SentRound x = many(3);
        x.doubt(2, 1000);
        readOnce(x, 3, 0, 0, value);
        due("mark(2, 3) of " + value, x.mark(2, 3), mark);
        due("judged(2, 3) of " + value, x.judged(2, 3), judgement);
    }

    private static void judged() {
        edge(TERMS, "It is GOOD, if the amount is 200 or less", () -> {
            judgedOf(0, 0, 0);
            judgedOf(2000, 200, 0);
            judgedOf(2009, 200, 0);
            judgedOf(2010, 201, 1);
            judgedOf(-2000, -200, 0);
            judgedOf(-2009, -200, 0);
            judgedOf(-2010, -201, 1);
        });
        edge(TERMS, "BAD above 300, else IN DOUBT.", () -> {
            judgedOf(3000, 300, 1);
            judgedOf(3009, 300, 1);
            judgedOf(3010, 301, 2);
            judgedOf(-3000, -300, 1);
            judgedOf(-3009, -300, 1);
            judgedOf(-3010, -301, 2);
            judgedOf(-20000, -2000, 2);
        });
        edge(21, "0 GOOD, 1 IN DOUBT, 2 BAD.", () -> {
            judgedOf(1, 0, 0);
            judgedOf(2500, 250, 1);
            judgedOf(20000, 2000, 2);
        });
        edge(21, "BAD; NOT.", () -> {
            SentRound x = many(2);
            x.reading(0, 0, 0, 1);
            due("judged(1, 0)", x.judged(1, 0), -3);
            due("judged(0, 3)", x.judged(0, 3), -3);
            for (int h : row(-1, 2)) due("judged(" + h + ", 0)", x.judged(h, 0), -2);
            for (int p : row(-1, 4)) due("judged(1, " + p + "): BAD comes first", x.judged(1, p), -2);
            for (int w : WILD) {
                due("judged(" + w + ", 0)", x.judged(w, 0), -2);
                due("judged(0, " + w + ")", x.judged(0, w), -2);
            }
        });
    }

    /** Of a house that read the pieces so, beside two that read 0 (of all pieces). */
    private static int runOf(int doubt, Integer... values) {
        SentRound x = many(3);
        x.doubt(2, doubt);
        for (int p = 0; p < 4; p++) readOnce(x, p, 0, 0);
        for (int p = 0; p < 4; p++) if (values[p] != null) x.reading(2, p, 0, values[p]);
        return x.run(2);
    }

    private static void runs() {
        edge(TERMS, "the longest row of MARKS on one side (above 0, below 0), one after the other.", () -> {
            due("all above", runOf(1, 1, 1, 1, 1), 4);
            due("all below", runOf(1, -1, -1, -1, -1), 4);
            due("3 at first", runOf(1, 1, 1, 1, -1), 3);
            due("3 at last", runOf(1, 1, -1, -1, -1), 3);
            due("2 in the middle", runOf(1, 1, -1, -1, 1), 2);
            due("side by side", runOf(1, -1, 1, -1, 1), 1);
            due("0 ends a row", runOf(1, 1, 0, 1, 1), 2);
            due("0 ends a row below", runOf(1, -1, -1, 0, -1), 2);
            due("0 is on no side", runOf(1, 0, 0, 0, 0), 0);
            due("a mark cut to 0 is 0", runOf(1000, 9, -9, 9, 9), 0);
            due("a mark of 1", runOf(1000, 10, 10, 9, 10), 2);
        });
        edge(TERMS, "A RUN of a HOUSE: of PIECES by numbers in which it TAKES PART", () -> {
            due("takes part in none", runOf(1, null, null, null, null), 0);
            due("takes part in the last", runOf(1, null, null, null, 1), 1);
            due("pieces 0 and 3 stand one after the other", runOf(1, 1, null, null, 1), 2);
            due("on two sides", runOf(1, 1, null, null, -1), 1);
            SentRound x = many(3);
            for (int p = 3; p >= 0; p--) {
                readOnce(x, p, 0, 0);
                x.reading(2, p, 0, p == 1 ? -100 : 100);
            }
            due("by numbers, not as they were told", x.run(2), 2);
        });
        edge(22, "The longest RUN.", () -> {
            SentRound x = many(14);
            for (int p = 0; p < 4; p++) {
                readOnce(x, p, 0, 0);
                x.reading(13, p, 0, 100);
            }
            due("run(13), the last house", x.run(13), 4);
            due("run(0)", x.run(0), 0);
            x.takeBack(5);
            due("run(13), one is taken back", x.run(13), 3);
        });
        edge(22, "BAD.", () -> {
            due("run(0) without houses", new SentRound().run(0), -2);
            SentRound x = many(2);
            for (int h : row(-1, 2)) due("run(" + h + ")", x.run(h), -2);
            for (int h : WILD) due("run(" + h + ")", x.run(h), -2);
        });
    }
}
