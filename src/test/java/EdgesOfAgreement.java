/** Edges of agreeing, of what is common and of chains: promises 14 to 18, and their terms. */
final class EdgesOfAgreement extends EdgeCase {
    static void all() {
        agree();
        refusedAgree();
        agreeing();
        commonPoint();
        refusedCommon();
        chains();
        refusedChains();
        via();
        refusedVia();
    }

    private static void agree() {
        edge(TERMS, "if the square of the difference of what they TOLD is at most 1000000 K K times the squares of both DOUBTS together", () -> {
            SentRound x = telling(10000, 10001, -10000, -10001, 9999);
            x.doubt(0, 3);
            for (int h = 1; h <= 5; h++) x.doubt(h, 4);
            int[] due = {1, 0, 1, 0, 1};
            for (int h = 1; h <= 5; h++) {
                due("agree(0, " + h + ", 0), 2 times the root of 9 and 16", x.agree(0, h, 0), due[h - 1]);
                due("agree(" + h + ", 0, 0)", x.agree(h, 0, 0), due[h - 1]);
            }
        });
        edge(TERMS, "1000000 K K times", () -> {
            for (int k = 1; k <= 5; k++) {
                SentRound x = telling(13000 * k, 13000 * k + 1);
                x.factor(k);
                x.doubt(0, 5);
                x.doubt(1, 12);
                x.doubt(2, 12);
                due("agree(0, 1, 0), K " + k, x.agree(0, 1, 0), 1);
                due("agree(0, 2, 0), K " + k, x.agree(0, 2, 0), 0);
            }
        });
        edge(TERMS, "1000000 K K times the squares of both DOUBTS together", () -> {
            SentRound x = telling(5000000, 5000001, -5000000, -5000001);
            x.factor(5);
            x.doubt(0, 600);
            for (int h = 1; h <= 4; h++) x.doubt(h, 800);
            for (int h = 1; h <= 4; h++) due("agree(0, " + h + ", 0)", x.agree(0, h, 0), h % 2);
        });
        edge(TERMS, "squares of both DOUBTS together (K told, 1 to 5; 2 at first).", () -> {
            SentRound x = many(2);
            x.pass(1);
            x.reading(0, 0, 0, 20000);
            x.reading(0, 0, 1, -20000);
            x.reading(1, 0, 1, 20000);
            x.factor(5);
            x.doubt(0, 1000);
            x.doubt(1, 1000);
            due("told(0, 0)", x.told(0, 0), 20000000);
            due("told(1, 0)", x.told(1, 0), 60000000);
            due("agree(0, 1, 0), as far apart as can be", x.agree(0, 1, 0), 0);
            readOnce(x, 1, 0, 7071);
            due("agree(0, 1, 1): 49999041 of 50000000", x.agree(0, 1, 1), 1);
            readOnce(x, 2, 0, 7072);
            due("agree(0, 1, 2): 50013184 of 50000000", x.agree(0, 1, 2), 0);
        });
        edge(TERMS, "Two HOUSES that TAKE PART AGREE in a PIECE", () -> {
            SentRound x = many(2);
            readOnce(x, 0, 1, 1);
            readOnce(x, 1, 1, 1000);
            due("agree(0, 1, 0)", x.agree(0, 1, 0), 1);
            due("agree(0, 1, 1), in another piece", x.agree(0, 1, 1), 0);
            due("agree(0, 1, 2), none takes part", x.agree(0, 1, 2), -3);
            due("agreeing(2)", x.agreeing(2), 0);
        });
        edge(14, "Whether two HOUSES AGREE: 1, 0.", () -> {
            SentRound x = many(14);
            x.reading(12, 3, 0, 5);
            x.reading(13, 3, 0, 5);
            x.reading(0, 3, 0, 500);
            due("agree(12, 13, 3)", x.agree(12, 13, 3), 1);
            due("agree(13, 12, 3)", x.agree(13, 12, 3), 1);
            due("agree(0, 13, 3)", x.agree(0, 13, 3), 0);
            x.pass(1);
            x.reading(13, 3, 0, 995);
            due("agree(0, 13, 3), told 500 now", x.agree(0, 13, 3), 1);
            x.asOf(0);
            due("agree(0, 13, 3), as of day 0", x.agree(0, 13, 3), 0);
        });
    }

    private static void refusedAgree() {
        edge(14, "BAD: also one with itself", () -> {
            SentRound x = many(3);
            readOnce(x, 0, 1, 1);
            for (int h = 0; h < 3; h++) due("agree(" + h + ", " + h + ", 0)", x.agree(h, h, 0), -2);
            due("agree(2, 2, 0): BAD comes before NOT", x.agree(2, 2, 0), -2);
            due("agree(0, 3, 0)", x.agree(0, 3, 0), -2);
            due("agree(3, 0, 0)", x.agree(3, 0, 0), -2);
            due("agree(0, -1, 0)", x.agree(0, -1, 0), -2);
            due("agree(-1, 0, 0)", x.agree(-1, 0, 0), -2);
            due("agree(0, 1, 4)", x.agree(0, 1, 4), -2);
            due("agree(0, 1, -1)", x.agree(0, 1, -1), -2);
            due("agree(0, 2, 4): BAD comes before NOT", x.agree(0, 2, 4), -2);
            for (int w : WILD) {
                due("agree(" + w + ", 1, 0)", x.agree(w, 1, 0), -2);
                due("agree(1, " + w + ", 0)", x.agree(1, w, 0), -2);
                due("agree(0, 1, " + w + ")", x.agree(0, 1, w), -2);
            }
        });
        edge(14, "NOT: one does not TAKE PART.", () -> {
            SentRound x = many(4);
            readOnce(x, 0, 1, 1);
            due("agree(0, 2, 0), the second", x.agree(0, 2, 0), -3);
            due("agree(2, 0, 0), the first", x.agree(2, 0, 0), -3);
            due("agree(2, 3, 0), neither", x.agree(2, 3, 0), -3);
            due("agree(0, 1, 3), neither of another piece", x.agree(0, 1, 3), -3);
            x.takeBack(1);
            due("agree(0, 1, 0), taken back", x.agree(0, 1, 0), -3);
        });
    }

    private static void agreeing() {
        edge(TERMS, "AGREEING are the most HOUSES that AGREE two by two", () -> {
            SentRound x = many(14);
            due("agreeing(3), none takes part", x.agreeing(3), 0);
            x.reading(13, 3, 0, 5);
            due("agreeing(3), the last alone", x.agreeing(3), 1 << 13);
            readOnce(x, 0, new int[14]);
            due("agreeing(0), all", x.agreeing(0), (1 << 14) - 1);
            for (int h = 0; h < 14; h++) x.doubt(h, 1);
            readOnce(x, 1, 0, 2, 4, 6, 8, 10, 12, 14, 16, 18, 20, 22, 24, 26);
            due("agreeing(1), a row of neighbours: two by two", x.agreeing(1), 3);
            readOnce(x, 2, 0, 2, 4, 100, 101, 101);
            due("agreeing(2), the three at the end", x.agreeing(2), 56);
            SentRound y = many(6);
            for (int h = 0; h < 6; h++) y.doubt(h, 1);
            readOnce(y, 0, 1, 1, 1, 100, 200, 300);
            due("agreeing(0), the three ahead of others that agree with none", y.agreeing(0), 7);
            readOnce(y, 1, 1, 1, 1, 1, 100, 100);
            due("agreeing(1), the four ahead of two", y.agreeing(1), 15);
        });
        edge(TERMS, "of like ones the least as bits.", () -> {
            SentRound x = many(6);
            for (int h = 0; h < 6; h++) x.doubt(h, 1);
            readOnce(x, 0, 0, 100, 100, 0);
            due("agreeing(0): 1 and 2, not 0 and 3", x.agreeing(0), 6);
            readOnce(x, 1, 0, 100, 200, 300, 400, 500);
            due("agreeing(1): each alone", x.agreeing(1), 1);
            readOnce(x, 2, 0, 100, 0, 100, 100, 0);
            due("agreeing(2): 1, 3 and 4, not 0, 2 and 5", x.agreeing(2), 26);
            readOnce(x, 3, 4, 2, 0);
            due("agreeing(3): 0 and 1, not 1 and 2", x.agreeing(3), 3);
        });
        edge(15, "AGREEING, as bits.", () -> {
            SentRound x = many(3);
            x.reading(0, 0, 0, 0);
            x.reading(2, 0, 0, 28);
            due("agreeing(0): 28 of 28.28", x.agreeing(0), 5);
            x.factor(1);
            due("agreeing(0), K 1", x.agreeing(0), 1);
            x.doubt(0, 27);
            due("agreeing(0), another doubt", x.agreeing(0), 5);
            x.takeBack(0);
            due("agreeing(0), one is taken back", x.agreeing(0), 4);
        });
        edge(15, "BAD.", () -> {
            SentRound x = many(1);
            for (int p : row(-1, 4)) due("agreeing(" + p + ")", x.agreeing(p), -2);
            for (int p : WILD) due("agreeing(" + p + ")", x.agreeing(p), -2);
        });
    }

    private static void commonPoint() {
        edge(TERMS, "(TOLD less 1000 K times the DOUBT, to TOLD and that) have a number in common", () -> {
            for (int k = 1; k <= 5; k++) {
                SentRound x = telling(10000 * k);
                x.factor(k);
                x.doubt(0, 4);
                x.doubt(1, 6);
                due("common(0, 0), touching, K " + k, x.common(0, 0), 2);
                due("common(0, 1)", x.common(0, 1), 4000 * k);
                SentRound y = telling(10000 * k + 1);
                y.factor(k);
                y.doubt(0, 4);
                y.doubt(1, 6);
                due("common(0, 0), a thousandth apart, K " + k, y.common(0, 0), 1);
                due("common(0, 1)", y.common(0, 1), -4000 * k);
                SentRound z = telling(-10000 * k - 1);
                z.factor(k);
                z.doubt(0, 4);
                z.doubt(1, 6);
                due("common(0, 0), a thousandth apart below, K " + k, z.common(0, 0), 1);
                due("common(0, 1)", z.common(0, 1), -16000 * k - 1);
            }
        });
        edge(TERMS, "COMMON: the most HOUSES whose spans", () -> {
            SentRound x = many(14);
            readOnce(x, 0, new int[14]);
            due("common(0, 0), all", x.common(0, 0), 14);
            due("common(0, 1)", x.common(0, 1), -20000);
            x.factor(1);
            for (int h = 0; h < 14; h++) x.doubt(h, 1);
            readOnce(x, 1, 0, 2, 4, 100, 101, 102);
            due("common(1, 0), three at 101, not two at 1 and 3", x.common(1, 0), 3);
            due("common(1, 1)", x.common(1, 1), 101000);
        });
        edge(TERMS, "the least such number (of all whole ones).", () -> {
            SentRound x = many(5);
            x.factor(1);
            for (int h = 0; h < 5; h++) x.doubt(h, 1);
            readOnce(x, 0, 100, 101, 0, 1);
            due("common(0, 0), two here and two there", x.common(0, 0), 2);
            due("common(0, 1), the lower", x.common(0, 1), 0);
            readOnce(x, 1, 7, 5, 3);
            due("common(1, 1), of two at 4 and 6", x.common(1, 1), 4000);
            x.doubt(0, 1000);
            due("common(1, 0)", x.common(1, 0), 3);
            due("common(1, 1)", x.common(1, 1), 4000);
            readOnce(x, 2, -20000);
            x.factor(5);
            due("common(2, 1), the least that can be of day 0", x.common(2, 1), -25000000);
        });
        edge(16, "COMMON: how many (what = 0; 0 without HOUSES), the number (1).", () -> {
            SentRound x = new SentRound();
            due("common(3, 0) without houses", x.common(3, 0), 0);
            x.house(0);
            due("common(3, 0), none takes part", x.common(3, 0), 0);
            x.reading(0, 3, 0, 1);
            due("common(3, 0)", x.common(3, 0), 1);
            due("common(3, 1)", x.common(3, 1), -19000);
            x.doubt(0, 1);
            due("common(3, 1), another doubt", x.common(3, 1), -1000);
        });
    }

    private static void refusedCommon() {
        edge(16, "BAD: the least int", () -> {
            SentRound x = many(1);
            x.reading(0, 0, 0, 0);
            for (int p : row(-1, 4)) due("common(" + p + ", 0)", x.common(p, 0), BAD_INT);
            for (int what : row(-1, 2)) due("common(0, " + what + ")", x.common(0, what), BAD_INT);
            due("common(1, 2), none takes part: BAD comes first", x.common(1, 2), BAD_INT);
            for (int w : WILD) {
                due("common(" + w + ", 1)", x.common(w, 1), BAD_INT);
                due("common(0, " + w + ")", x.common(0, w), BAD_INT);
            }
        });
        edge(16, "NOT: none TAKES PART (what = 1): the least int and 1.", () -> {
            SentRound x = many(1);
            due("common(0, 1)", x.common(0, 1), NOT_INT);
            x.reading(0, 0, 0, 20);
            due("common(0, 1): 0 is a number", x.common(0, 1), 0);
            due("common(1, 1)", x.common(1, 1), NOT_INT);
            x.takeBack(0);
            due("common(0, 1), taken back", x.common(0, 1), NOT_INT);
            due("common(0, 0), taken back", x.common(0, 0), 0);
        });
    }

    /** 0 and 1 by piece 0, 1 and 2 by 1, 2 and 3 by 2, 3 and 4 by 3; 5 alone. */
    private static SentRound line() {
        SentRound x = many(6);
        for (int p = 0; p < 4; p++) {
            x.reading(p, p, 0, 1);
            x.reading(p + 1, p, 0, 1);
        }
        return x;
    }

    private static void chains() {
        edge(TERMS, "each two neighbours of which TAKE PART in one PIECE together", () -> {
            SentRound x = line();
            due("chain(0, 1)", x.chain(0, 1), 200);
            due("chain(0, 2)", x.chain(0, 2), 300);
            due("chain(0, 4), the longest", x.chain(0, 4), 500);
            due("chain(4, 0)", x.chain(4, 0), 500);
            x.pass(1);
            x.takeBack(4);
            due("chain(0, 4), broken between 2 and 3", x.chain(0, 4), -1);
            due("chain(0, 2)", x.chain(0, 2), 300);
            x.asOf(0);
            due("chain(0, 4), as of the day before", x.chain(0, 4), 500);
        });
        edge(TERMS, "it costs the squares of DOUBTS of all on it together (both ends too)", () -> {
            SentRound x = line();
            int[] doubts = {1, 20, 300, 4, 1000};
            for (int h = 0; h < 5; h++) x.doubt(h, doubts[h]);
            due("chain(0, 4)", x.chain(0, 4), 1 + 400 + 90000 + 16 + 1000000);
            due("chain(1, 3)", x.chain(1, 3), 400 + 90000 + 16);
            for (int h = 0; h < 5; h++) x.doubt(h, 1000);
            due("chain(0, 4), the dearest", x.chain(0, 4), 5000000);
        });
        edge(TERMS, "the least cost.", () -> {
            SentRound x = line();
            x.doubt(2, 1000);
            due("chain(0, 4) by 2", x.chain(0, 4), 1000400);
            x.reading(5, 0, 0, 1);
            x.reading(5, 3, 0, 1);
            x.doubt(5, 999);
            due("chain(0, 4) by 5, that costs less", x.chain(0, 4), 998201);
            x.doubt(5, 1000);
            due("chain(0, 4) by 5 alone, not by three", x.chain(0, 4), 1000200);
            x.doubt(2, 1);
            due("chain(0, 4) by 1, 2 and 3", x.chain(0, 4), 401);
        });
        edge(17, "The least cost of a CHAIN; NONE: there is none.", () -> {
            SentRound x = line();
            due("chain(0, 5)", x.chain(0, 5), -1);
            due("chain(5, 0)", x.chain(5, 0), -1);
            SentRound y = many(14);
            due("chain(0, 13) without readings", y.chain(0, 13), -1);
            y.reading(0, 3, 0, 1);
            y.reading(13, 2, 0, 1);
            due("chain(0, 13), of two pieces", y.chain(0, 13), -1);
            y.reading(13, 3, 0, 999);
            due("chain(0, 13), whatever they told", y.chain(0, 13), 200);
        });
    }

    private static void refusedChains() {
        edge(17, "BAD: also from one to itself.", () -> {
            SentRound x = line();
            for (int h = 0; h < 6; h++) due("chain(" + h + ", " + h + ")", x.chain(h, h), -2);
            for (int h : row(-1, 6)) {
                due("chain(0, " + h + ")", x.chain(0, h), -2);
                due("chain(" + h + ", 0)", x.chain(h, 0), -2);
            }
            for (int w : WILD) {
                due("chain(0, " + w + ")", x.chain(0, w), -2);
                due("chain(" + w + ", 0)", x.chain(w, 0), -2);
            }
            due("chain(0, 1) without houses", new SentRound().chain(0, 1), -2);
        });
    }

    private static void via() {
        edge(18, "The HOUSE next to the first on the CHAIN with the least cost", () -> {
            SentRound x = line();
            due("via(0, 4)", x.via(0, 4), 1);
            due("via(4, 0)", x.via(4, 0), 3);
            due("via(1, 4)", x.via(1, 4), 2);
            due("via(3, 4), the other end itself", x.via(3, 4), 4);
            due("via(1, 0), the other end itself", x.via(1, 0), 0);
            SentRound y = many(3);
            readOnce(y, 0, 1, 1);
            y.reading(0, 1, 0, 1);
            y.reading(2, 1, 0, 1);
            due("via(1, 2), by the first house", y.via(1, 2), 0);
            x.reading(5, 0, 0, 1);
            x.reading(5, 3, 0, 1);
            due("via(0, 4), by 5", x.via(0, 4), 5);
            x.doubt(5, 18);
            due("via(0, 4): 324 by 5, 300 by 1", x.via(0, 4), 1);
            x.doubt(5, 17);
            due("via(0, 4): 289 by 5", x.via(0, 4), 5);
        });
        edge(18, "of like ones the least", () -> {
            SentRound x = many(14);
            readOnce(x, 0, 1, 1, 1, 1, 1, 1, 1);
            for (int h = 3; h < 14; h++) x.reading(h, 1, 0, 1);
            due("via(0, 13), 3 to 6 are alike", x.via(0, 13), 3);
            due("via(13, 0)", x.via(13, 0), 3);
            x.doubt(6, 9);
            due("via(0, 13), 6 costs less", x.via(0, 13), 6);
            x.doubt(3, 9);
            due("via(0, 13), 3 and 6 are alike", x.via(0, 13), 3);
        });
        edge(18, "of like ones the least; NONE.", () -> {
            SentRound x = line();
            due("via(0, 5)", x.via(0, 5), -1);
            due("via(5, 0)", x.via(5, 0), -1);
            due("via(0, 1) without readings", many(2).via(0, 1), -1);
        });
    }

    private static void refusedVia() {
        edge(18, "BAD.", () -> {
            SentRound x = line();
            for (int h : row(-1, 6)) {
                due("via(0, " + h + ")", x.via(0, h), -2);
                due("via(" + h + ", 0)", x.via(h, 0), -2);
            }
            for (int w : WILD) {
                due("via(0, " + w + ")", x.via(0, w), -2);
                due("via(" + w + ", 0)", x.via(w, 0), -2);
            }
            // a chain goes from a house to another, so from one to itself there is no such thing
            for (int h = 0; h < 6; h++) due("via(" + h + ", " + h + ")", x.via(h, h), -2);
        });
    }
}
