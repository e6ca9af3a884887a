/** Edges of the drift and of what is told: promises 11 to 13, and the terms that they use. */
final class EdgesOfTold extends EdgeCase {
    static void all() {
        points();
        noPoints();
        straights();
        roundedDrift();
        refusedDrift();
        reduced();
        howMany();
        told();
    }

    /** House 0 reads the piece on each day as the value behind it. */
    private static void pilot(SentRound x, int piece, int... dayAndValue) {
        for (int i = 0; i + 1 < dayAndValue.length; i += 2) x.reading(0, piece, dayAndValue[i], dayAndValue[i + 1]);
    }

    private static SentRound onDay(int day, int houses) {
        SentRound x = many(houses);
        toDay(x, day);
        return x;
    }

    private static void drifts(SentRound x, int piece, int... dayAndDrift) {
        for (int i = 0; i + 1 < dayAndDrift.length; i += 2) {
            due("drift(" + piece + ", " + dayAndDrift[i] + ")", x.drift(piece, dayAndDrift[i]), dayAndDrift[i + 1]);
        }
    }

    private static void points() {
        edge(TERMS, "HOUSE 0 is THE PILOT. POINTS of a PIECE are DAYS on which THE PILOT read it", () -> {
            SentRound x = onDay(10, 2);
            x.reading(1, 0, 0, 1);
            x.reading(1, 0, 10, 9);
            drifts(x, 0, 0, 0, 10, 0);
            pilot(x, 0, 0, 5, 10, 7);
            drifts(x, 0, 0, 0, 5, 1000, 10, 2000);
            drifts(x, 1, 0, 0, 10, 0);
        });
        edge(TERMS, "POINTS of a PIECE are DAYS on which THE PILOT read it (KNOWN ones)", () -> {
            SentRound x = onDay(10, 1);
            pilot(x, 0, 0, 0, 10, 8, 5, 1);
            drifts(x, 0, 5, 1000, 10, 8000);
            x.pass(1);
            x.takeBack(2);
            drifts(x, 0, 5, 4000, 10, 8000);
            x.takeBack(0);
            drifts(x, 0, 5, 0, 10, 0);
            x.asOf(10);
            drifts(x, 0, 5, 1000, 10, 8000);
            x.asOf(9);
            drifts(x, 0, 5, 0, 10, 0);
        });
        edge(TERMS, "each with the mean of those of that DAY.", () -> {
            SentRound x = onDay(4, 1);
            pilot(x, 0, 0, 0, 4, 1, 0, 3, 4, 6, 0, 0, 4, 8);
            drifts(x, 0, 0, 0, 2, 2000, 4, 4000);
            // points of 2, of 1 and of 3 readings: means 1, 5 and 2
            pilot(x, 1, 0, 0, 0, 2, 2, 5, 4, 1, 4, 2, 4, 3);
            drifts(x, 1, 0, 0, 1, 2000, 2, 4000, 3, 2500, 4, 1000);
            // of 1 and of 3 readings: means 1 and 3
            pilot(x, 2, 0, 1, 4, 2, 4, 3, 4, 4);
            drifts(x, 2, 1, 500, 3, 1500, 4, 2000);
        });
        edge(TERMS, "READINGS, 150 at most, 8 of a HOUSE and a PIECE", () -> {
            SentRound x = onDay(80, 1);
            for (int day = 80; day > 0; day -= 10) x.reading(0, 0, day, day);
            drifts(x, 0, 10, 0, 15, 5000, 45, 35000, 79, 69000, 80, 70000);
        });
    }

    private static void noPoints() {
        edge(TERMS, "0 without POINTS.", () -> {
            drifts(new SentRound(), 3, 0, 0, 399, 0);
            SentRound x = onDay(3, 2);
            drifts(x, 0, 0, 0, 3, 0);
            pilot(x, 0, 0, 1, 3, 9);
            x.takeBack(0);
            x.takeBack(1);
            drifts(x, 0, 0, 0, 3, 0);
            x.reading(1, 0, 2, 5);
            due("told(1, 0) without points", x.told(1, 0), 5000);
        });
    }

    private static void straights() {
        edge(TERMS, "DRIFT of a PIECE on a DAY, in thousandths: its POINT's mean", () -> {
            SentRound x = onDay(9, 1);
            pilot(x, 0, 2, 1, 5, 3, 6, -4, 9, 2);
            drifts(x, 0, 2, 0, 5, 2000, 6, -5000, 9, 1000);
        });
        edge(TERMS, "between two neighbouring POINTS, on the straight between them", () -> {
            SentRound x = onDay(9, 1);
            pilot(x, 0, 9, 2, 1, 0, 5, 4, 6, -4);
            drifts(x, 0, 2, 1000, 4, 3000, 7, -2000, 8, 0);
        });
        edge(TERMS, "ahead of the first POINT the first's mean", () -> {
            SentRound x = onDay(9, 1);
            pilot(x, 0, 4, 7, 8, 9);
            drifts(x, 0, 0, 0, 3, 0, 4, 0, 5, 500);
        });
        edge(TERMS, "behind the last the last's", () -> {
            SentRound x = onDay(9, 1);
            pilot(x, 0, 4, 7, 8, 9);
            drifts(x, 0, 7, 1500, 8, 2000, 9, 2000, 10, 2000, 399, 2000);
        });
        edge(TERMS, "all less the first POINT's mean", () -> {
            SentRound x = onDay(2, 1);
            pilot(x, 0, 1, 20000);
            drifts(x, 0, 0, 0, 1, 0, 2, 0);
            pilot(x, 0, 2, -20000);
            drifts(x, 0, 1, 0, 2, -40000000);
            pilot(x, 1, 1, -20000, 2, 20000);
            drifts(x, 1, 2, 40000000);
        });
    }

    private static void roundedDrift() {
        edge(TERMS, "exactly, then 1000 times that, rounded to the nearest (half up)", () -> {
            SentRound x = onDay(16, 1);
            pilot(x, 0, 0, 0, 16, 1);
            drifts(x, 0, 1, 63, 3, 188, 2, 125);
            pilot(x, 1, 0, 0, 16, -1);
            drifts(x, 1, 1, -62, 3, -187, 2, -125);
            pilot(x, 2, 0, 0, 3, 1);
            drifts(x, 2, 1, 333, 2, 667);
            pilot(x, 3, 0, 0, 3, -1);
            drifts(x, 3, 1, -333, 2, -667);
        });
        edge(TERMS, "all less the first POINT's mean; exactly", () -> {
            SentRound x = onDay(5, 1);
            pilot(x, 0, 0, 0, 0, 0, 0, 1, 5, 0, 5, 1, 5, 1);
            drifts(x, 0, 5, 333);
            pilot(x, 1, 0, 0, 0, 1, 0, 1, 5, 0, 5, 0, 5, 1);
            drifts(x, 1, 5, -333);
        });
    }

    private static void refusedDrift() {
        edge(11, "DRIFT.", () -> {
            SentRound x = onDay(5, 1);
            pilot(x, 3, 0, 0, 5, 5);
            due("drift(3, 4), the last piece", x.drift(3, 4), 4000);
            due("drift(3, 399), behind the day", x.drift(3, 399), 5000);
            due("drift(0, 0), the first piece and day", x.drift(0, 0), 0);
        });
        edge(11, "BAD: the least int.", () -> {
            SentRound x = onDay(5, 1);
            for (int p : row(-1, 4)) due("drift(" + p + ", 0)", x.drift(p, 0), BAD_INT);
            for (int d : row(-1, 400)) due("drift(0, " + d + ")", x.drift(0, d), BAD_INT);
            for (int w : WILD) {
                due("drift(" + w + ", 0)", x.drift(w, 0), BAD_INT);
                due("drift(0, " + w + ")", x.drift(0, w), BAD_INT);
            }
        });
    }

    private static void reduced() {
        edge(TERMS, "REDUCED is a READING: 1000 times its VALUE less the DRIFT of its PIECE on its DAY.", () -> {
            SentRound x = onDay(10, 3);
            pilot(x, 0, 0, 0, 5, 10);
            x.reading(1, 0, 3, 7);
            due("told(1, 0), of day 3", x.told(1, 0), 1000);
            x.reading(2, 0, 10, 7);
            due("told(2, 0), of day 10", x.told(2, 0), -3000);
            x.reading(2, 1, 3, 7);
            due("told(2, 1), another piece", x.told(2, 1), 7000);
            due("told(0, 0): the pilot's are reduced too", x.told(0, 0), 0);
        });
        edge(TERMS, "TOLD by a HOUSE of a PIECE: the mean of its REDUCED READINGS, rounded to the nearest (half up).", () -> {
            SentRound x = onDay(3, 5);
            pilot(x, 0, 0, 0, 3, 1);
            readingsOn(x, 1, 0, 0, 1, 0);
            due("told(1, 0): -166.5", x.told(1, 0), -166);
            readingsOn(x, 2, 0, 1, 1, 1);
            due("told(2, 0): 833.5", x.told(2, 0), 834);
            readAll(x, 1, row(), row(0, 0, 1), row(0, 1, 1), row(0, 0, -1), row(0, -1, -1));
            due("told(1, 1)", x.told(1, 1), 333);
            due("told(2, 1)", x.told(2, 1), 667);
            due("told(3, 1)", x.told(3, 1), -333);
            due("told(4, 1)", x.told(4, 1), -667);
        });
        edge(TERMS, "the mean of its REDUCED READINGS", () -> {
            SentRound x = onDay(399, 2);
            pilot(x, 0, 0, -20000, 399, 20000);
            x.reading(1, 0, 399, -20000);
            due("told(1, 0), the least that can be", x.told(1, 0), -60000000);
            pilot(x, 1, 0, 20000, 399, -20000);
            x.reading(1, 1, 399, 20000);
            due("told(1, 1), the most that can be", x.told(1, 1), 60000000);
        });
    }

    private static void readingsOn(SentRound x, int house, int... dayAndValue) {
        for (int i = 0; i + 1 < dayAndValue.length; i += 2) x.reading(house, 0, dayAndValue[i], dayAndValue[i + 1]);
    }

    private static void howMany() {
        edge(12, "How many KNOWN READINGS a HOUSE has of a PIECE.", () -> {
            SentRound x = many(14);
            for (int n = 0; n <= 8; n++) {
                due("many(13, 3)", x.many(13, 3), n);
                x.reading(13, 3, 0, n);
            }
            due("many(13, 3)", x.many(13, 3), 8);
            due("many(13, 2)", x.many(13, 2), 0);
            due("many(12, 3)", x.many(12, 3), 0);
            x.takeBack(0);
            due("many(13, 3), one is taken back", x.many(13, 3), 7);
        });
        edge(12, "BAD.", () -> {
            due("many(0, 0) without houses", new SentRound().many(0, 0), -2);
            SentRound x = many(2);
            for (int h : row(-1, 2)) due("many(" + h + ", 0)", x.many(h, 0), -2);
            for (int p : row(-1, 4)) due("many(0, " + p + ")", x.many(0, p), -2);
            for (int w : WILD) {
                due("many(" + w + ", 0)", x.many(w, 0), -2);
                due("many(0, " + w + ")", x.many(0, w), -2);
            }
        });
    }

    private static void told() {
        edge(13, "TOLD.", () -> {
            SentRound x = many(14);
            x.reading(13, 3, 0, 20000);
            x.reading(0, 0, 0, -20000);
            due("told(13, 3), the last house and piece", x.told(13, 3), 20000000);
            due("told(0, 0), the first", x.told(0, 0), -20000000);
        });
        edge(13, "BAD: the least int", () -> {
            due("told(0, 0) without houses", new SentRound().told(0, 0), BAD_INT);
            SentRound x = many(2);
            for (int h : row(-1, 2)) due("told(" + h + ", 0)", x.told(h, 0), BAD_INT);
            for (int p : row(-1, 4)) due("told(0, " + p + "): BAD comes first", x.told(0, p), BAD_INT);
            for (int w : WILD) {
                due("told(" + w + ", 0)", x.told(w, 0), BAD_INT);
                due("told(0, " + w + ")", x.told(0, w), BAD_INT);
            }
        });
        edge(13, "NOT: it does not TAKE PART: the least int and 1.", () -> {
            SentRound x = many(2);
            x.reading(0, 1, 0, 0);
            due("told(0, 0)", x.told(0, 0), NOT_INT);
            due("told(1, 1)", x.told(1, 1), NOT_INT);
            due("told(0, 1): 0 is told", x.told(0, 1), 0);
            x.takeBack(0);
            due("told(0, 1), taken back", x.told(0, 1), NOT_INT);
        });
    }
}
