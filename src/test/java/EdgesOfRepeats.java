/** Edges of repeats, of parts and of ways: promises 23 to 28, and the terms that they use. */
final class EdgesOfRepeats extends EdgeCase {
    static void all() {
        within();
        rounded();
        refusedWithin();
        widest();
        share();
        parts();
        between();
        refusedParts();
        ways();
        chance();
        refusedWays();
        score();
    }

    private static void within(SentRound x, int house, int piece, long above, long below) {
        due("within(" + house + ", " + piece + ", 0)", x.within(house, piece, 0), above);
        due("within(" + house + ", " + piece + ", 1)", x.within(house, piece, 1), below);
    }

    private static void share(SentRound x, int piece, long above, long below) {
        due("share(" + piece + ", 0)", x.share(piece, 0), above);
        due("share(" + piece + ", 1)", x.share(piece, 1), below);
    }

    private static void part(SentRound x, int piece, int part, long above, long below) {
        due("parts(" + piece + ", " + part + ", 0)", x.parts(piece, part, 0), above);
        due("parts(" + piece + ", " + part + ", 1)", x.parts(piece, part, 1), below);
    }

    private static void within() {
        edge(TERMS, "the squares of differences of its READINGS to their mean, together, by how many less 1.", () -> {
            SentRound x = many(14);
            readAll(x, 0, row(0, 3), row(1, 2, 4), row(5, 5), row(-20000, 20000));
            within(x, 0, 0, 9, 2);
            within(x, 1, 0, 7, 3);
            within(x, 2, 0, 0, 1);
            within(x, 3, 0, 800000000, 1);
            int[] manies = {2, 3, 4, 5, 6, 7, 8};
            for (int n : manies) for (int i = 0; i < n; i++) x.reading(13 - n, 3, 0, i == 0 ? 1 : 0);
            // one 1 and the others 0: the squares together are (n - 1) by n
            for (int n : manies) within(x, 13 - n, 3, 1, n);
        });
        edge(23, "WITHIN of a HOUSE: above, below.", () -> {
            SentRound x = many(14);
            for (int i = 0; i < 8; i++) x.reading(13, 3, 0, i % 2 == 0 ? -20000 : 20000);
            within(x, 13, 3, 3200000000L, 7);
            x.pass(1);
            x.takeBack(0);
            // seven with three of -20000: 16 times 10 to the 8 times 12 by 7, by 6
            within(x, 13, 3, 3200000000L, 7);
            x.asOf(0);
            within(x, 13, 3, 3200000000L, 7);
            x.asOf(-1);
            x.takeBack(2);
            // six with two of -20000: 16 times 10 to the 8 times 8 by 6, by 5
            within(x, 13, 3, 1280000000L, 3);
        });
    }

    /** Within of 10 (on day 0) and of another reading of house 1, under a drift of 1 in 'span' days. */
    private static void withinOfTen(int span, int day, int value, long above, long below) {
        SentRound x = many(2);
        toDay(x, span);
        x.reading(0, 0, 0, 0);
        x.reading(0, 0, span, 1);
        x.reading(1, 0, 0, 10);
        x.reading(1, 0, day, value);
        due("within(1, 0, 0) of 10 and " + value + " on day " + day, x.within(1, 0, 0), above);
        due("within(1, 0, 1) of 10 and " + value + " on day " + day, x.within(1, 0, 1), below);
    }

    private static void rounded() {
        edge(TERMS, "All FRACTIONS, of REDUCED READINGS rounded by 1000 to the nearest (half up).", () -> {
            withinOfTen(398, 199, 1, 81, 2); // 500 is 1
            withinOfTen(398, 199, 0, 50, 1); // -500 is 0
            withinOfTen(398, 199, 2, 32, 1); // 1500 is 2
            withinOfTen(398, 199, -1, 121, 2); // -1500 is -1
            withinOfTen(399, 199, 1, 81, 2); // 501 is 1
            withinOfTen(399, 200, 1, 50, 1); // 499 is 0
            withinOfTen(399, 199, 0, 50, 1); // -499 is 0
            withinOfTen(399, 200, 0, 121, 2); // -501 is -1
        });
    }

    private static void refusedWithin() {
        edge(23, "BAD", () -> {
            due("within(0, 0, 0) without houses", new SentRound().within(0, 0, 0), BAD_LONG);
            SentRound x = many(2);
            readAll(x, 0, row(1, 2));
            for (int h : row(-1, 2)) due("within(" + h + ", 0, 0)", x.within(h, 0, 0), BAD_LONG);
            for (int p : row(-1, 4)) due("within(0, " + p + ", 0)", x.within(0, p, 0), BAD_LONG);
            for (int what : row(-1, 2)) due("within(0, 0, " + what + ")", x.within(0, 0, what), BAD_LONG);
            due("within(1, 0, 2): BAD comes before NOT", x.within(1, 0, 2), BAD_LONG);
            due("within(1, 4, 0): BAD comes before NOT", x.within(1, 4, 0), BAD_LONG);
            for (int w : WILD) {
                due("within(" + w + ", 0, 0)", x.within(w, 0, 0), BAD_LONG);
                due("within(0, " + w + ", 0)", x.within(0, w, 0), BAD_LONG);
                due("within(0, 0, " + w + ")", x.within(0, 0, w), BAD_LONG);
            }
        });
        edge(23, "NOT: fewer than two READINGS. (As the least long.)", () -> {
            SentRound x = many(1);
            within(x, 0, 0, NOT_LONG, NOT_LONG);
            x.reading(0, 0, 0, 1);
            within(x, 0, 0, NOT_LONG, NOT_LONG);
            x.reading(0, 1, 0, 1);
            within(x, 0, 0, NOT_LONG, NOT_LONG);
            x.reading(0, 0, 0, 2);
            within(x, 0, 0, 1, 2);
            x.takeBack(0);
            within(x, 0, 0, NOT_LONG, NOT_LONG);
        });
    }

    private static void widest() {
        edge(TERMS, "REPEATS: of a PIECE those HOUSES with two READINGS of it or more that are KNOWN (REDUCED).", () -> {
            SentRound x = many(3);
            readAll(x, 0, row(5), row(0), row(1, 1));
            due("widest(0), house 2 alone has two", x.widest(0), 2);
            share(x, 0, 0, 1);
            x.reading(0, 1, 0, 9);
            x.reading(0, 2, 0, 1);
            due("widest(1), two of two pieces", x.widest(1), -1);
            x.pass(1);
            x.takeBack(3);
            due("widest(0), one of the two is taken back", x.widest(0), -1);
            x.asOf(0);
            due("widest(0), as of the day before", x.widest(0), 2);
            SentRound y = many(2);
            y.pass(4);
            y.reading(0, 0, 0, 0);
            y.reading(0, 0, 4, 100);
            readAll(y, 0, row(), row(3, 4));
            due("widest(0): what is drift is not within", y.widest(0), 1);
        });
        edge(TERMS, "WIDEST: the HOUSE with the greatest WITHIN, of like ones the first", () -> {
            SentRound x = many(14);
            readAll(x, 0, row(1), row(0, 2), row(0, 2), row(7, 7));
            due("widest(0)", x.widest(0), 1);
            readAll(x, 1, row(0, 3), row(0, 0, 0, 4), row(0, 0, 0, 0, 5));
            due("widest(1): 9/2, 4, 5", x.widest(1), 2);
            // of 2 and of 8 readings: 2/1 and 14/7
            readAll(x, 2, row(), row(1, -1, 1, -1, 1, -1, 2, -2), row(0, 2));
            due("widest(2): 2, 2", x.widest(2), 1);
            x.reading(13, 3, 0, 0);
            x.reading(13, 3, 0, 0);
            due("widest(3): 0 is the greatest", x.widest(3), 13);
            x.reading(12, 3, 0, 0);
            x.reading(12, 3, 0, 0);
            due("widest(3): of 0 and 0 the first", x.widest(3), 12);
        });
        edge(24, "WIDEST; NONE.", () -> {
            SentRound x = many(14);
            due("widest(0) without readings", x.widest(0), -1);
            readOnce(x, 0, new int[14]);
            due("widest(0), one of each", x.widest(0), -1);
            x.reading(13, 0, 0, 0);
            due("widest(0)", x.widest(0), 13);
        });
        edge(24, "BAD.", () -> {
            SentRound x = many(1);
            for (int p : row(-1, 4)) due("widest(" + p + ")", x.widest(p), -2);
            for (int p : WILD) due("widest(" + p + ")", x.widest(p), -2);
        });
    }

    private static void share() {
        edge(TERMS, "its SHARE: its WITHIN by all WITHIN together (0 by 1, if that is 0).", () -> {
            SentRound x = many(14);
            readAll(x, 0, row(7, 7), row(8, 8), row(5));
            share(x, 0, 0, 1);
            readAll(x, 1, row(7, 7), row(8, 9), row(5));
            share(x, 1, 1, 1);
            readAll(x, 2, row(0, 3), row(0, 0, 0, 4), row(100));
            share(x, 2, 9, 17);
            share(x, 0, 0, 1);
            for (int h = 0; h < 14; h++) {
                x.reading(h, 3, 0, -20000);
                x.reading(h, 3, 0, 20000);
            }
            share(x, 3, 1, 14);
        });
        edge(25, "SHARE of the WIDEST: above, below.", () -> {
            SentRound x = many(3);
            readAll(x, 0, row(0, 1, 2, 3, 4, 5, 6, 7), row(0, 1, 2, 3, 4, 5, 6), row(0, 9));
            // 6, 14/3 and 81/2, together 307/6
            share(x, 0, 243, 307);
        });
        edge(25, "BAD", () -> {
            SentRound x = many(1);
            readAll(x, 0, row(1, 2));
            for (int p : row(-1, 4)) due("share(" + p + ", 0)", x.share(p, 0), BAD_LONG);
            for (int what : row(-1, 2)) due("share(0, " + what + ")", x.share(0, what), BAD_LONG);
            due("share(1, 2): BAD comes before NOT", x.share(1, 2), BAD_LONG);
            for (int w : WILD) {
                due("share(" + w + ", 0)", x.share(w, 0), BAD_LONG);
                due("share(0, " + w + ")", x.share(0, w), BAD_LONG);
            }
        });
        edge(25, "NOT: there is none. (As the least long.)", () -> {
            SentRound x = many(2);
            share(x, 0, NOT_LONG, NOT_LONG);
            readOnce(x, 0, 1, 2);
            share(x, 0, NOT_LONG, NOT_LONG);
            x.reading(1, 0, 0, 2);
            share(x, 0, 0, 1);
        });
    }

    private static void parts() {
        edge(TERMS, "have just as many READINGS n (2 or more)", () -> {
            SentRound x = many(3);
            readAll(x, 0, row(1), row(2));
            part(x, 0, 0, NOT_LONG, NOT_LONG);
            readAll(x, 0, row(1), row());
            part(x, 0, 0, NOT_LONG, NOT_LONG);
            readAll(x, 0, row(), row(2));
            part(x, 0, 0, 0, 1);
            part(x, 0, 1, 1, 2);
            x.reading(2, 0, 0, 5);
            part(x, 0, 1, NOT_LONG, NOT_LONG);
            x.takeBack(x.count(2) - 1);
            part(x, 0, 1, 1, 2);
            readAll(x, 1, row(0, 0, 0, 0, 0, 0, 0, 7), row(0, 0, 0, 0, 0, 0, 0, 7));
            part(x, 1, 0, 49, 8);
            part(x, 1, 1, 0, 1);
            readAll(x, 2, row(1, 2, 3), row(1, 2), row(1, 2, 3));
            part(x, 2, 0, NOT_LONG, NOT_LONG);
            readAll(x, 3, row(1), row(1, 2), row(1, 2));
            part(x, 3, 0, NOT_LONG, NOT_LONG);
        });
        edge(TERMS, "and they are two or more", () -> {
            SentRound x = many(14);
            part(x, 0, 0, NOT_LONG, NOT_LONG);
            x.reading(13, 0, 0, 1);
            x.reading(13, 0, 0, 2);
            part(x, 0, 0, NOT_LONG, NOT_LONG);
            x.reading(12, 0, 0, 1);
            x.reading(12, 0, 0, 2);
            part(x, 0, 0, 1, 2);
            for (int h = 0; h < 14; h++) for (int i = 0; i < 2; i++) x.reading(h, 1, 0, h);
            part(x, 1, 0, 0, 1);
            // the squares of 0 to 13 to their mean 13/2 are 455/2, by 13
            part(x, 1, 1, 35, 2);
        });
        edge(TERMS, "WITHIN: the mean of their WITHIN", () -> {
            SentRound x = many(3);
            readAll(x, 0, row(0, 1, 2), row(3, 5, 5), row(9, 9, 9));
            part(x, 0, 0, 7, 9);
            readAll(x, 1, row(-20000, 20000), row(-20000, 20000));
            part(x, 1, 0, 800000000, 1);
        });
    }

    private static void between() {
        edge(TERMS, "BETWEEN: the squares of differences of means of HOUSES to the mean of these, together, by how many HOUSES less 1, less WITHIN by n", () -> {
            SentRound x = many(3);
            readAll(x, 0, row(0, 1, 2), row(3, 5, 5), row(9, 9, 9));
            // means 1, 13/3, 9: 2616/81 by 2, less 7/9 by 3
            part(x, 0, 1, 143, 9);
            readAll(x, 1, row(-20000, -20000), row(20000, 20000));
            part(x, 1, 1, 800000000, 1);
            readAll(x, 2, row(0, 2), row(3, 3));
            part(x, 2, 1, 3, 2);
        });
        edge(TERMS, "0 if that is below 0.", () -> {
            SentRound x = many(3);
            readAll(x, 0, row(0, 2), row(2, 2));
            part(x, 0, 1, 0, 1); // it is 0 itself
            readAll(x, 1, row(0, 2), row(1, 1));
            part(x, 1, 1, 0, 1); // -1/2
            readAll(x, 2, row(-20000, 20000), row(-20000, 20000));
            part(x, 2, 1, 0, 1);
            part(x, 2, 0, 800000000, 1);
        });
    }

    private static void refusedParts() {
        edge(26, "PARTS: WITHIN (part = 0), BETWEEN (1): above, below.", () -> {
            SentRound x = many(2);
            readAll(x, 3, row(0, 3), row(7, 7));
            part(x, 3, 0, 9, 4);
            part(x, 3, 1, 14, 1);
        });
        edge(26, "BAD", () -> {
            SentRound x = many(2);
            readAll(x, 0, row(1, 2), row(1, 2));
            for (int p : row(-1, 4)) due("parts(" + p + ", 0, 0)", x.parts(p, 0, 0), BAD_LONG);
            for (int q : row(-1, 2)) due("parts(0, " + q + ", 0)", x.parts(0, q, 0), BAD_LONG);
            for (int what : row(-1, 2)) due("parts(0, 0, " + what + ")", x.parts(0, 0, what), BAD_LONG);
            due("parts(1, 2, 0): BAD comes before NOT", x.parts(1, 2, 0), BAD_LONG);
            due("parts(1, 0, 2): BAD comes before NOT", x.parts(1, 0, 2), BAD_LONG);
            for (int w : WILD) {
                due("parts(" + w + ", 0, 0)", x.parts(w, 0, 0), BAD_LONG);
                due("parts(0, " + w + ", 0)", x.parts(0, w, 0), BAD_LONG);
                due("parts(0, 0, " + w + ")", x.parts(0, 0, w), BAD_LONG);
            }
        });
        edge(26, "NOT: HOUSES have not as many, or are fewer than two. (As the least long.)", () -> {
            SentRound x = many(3);
            readAll(x, 0, row(1, 2, 3), row(1, 2));
            part(x, 0, 0, NOT_LONG, NOT_LONG);
            part(x, 0, 1, NOT_LONG, NOT_LONG);
            x.takeBack(0);
            part(x, 0, 0, 1, 2);
            x.takeBack(1);
            x.takeBack(2);
            part(x, 0, 0, NOT_LONG, NOT_LONG);
            part(new SentRound(), 3, 1, NOT_LONG, NOT_LONG);
        });
    }

    private static void ways() {
        edge(27, "0 HOUSES of WAY 0, 1 of WAY 1", () -> {
            due("ways(0, 0) without houses", new SentRound().ways(0, 0), 0);
            due("ways(0, 1) without houses", new SentRound().ways(0, 1), 0);
            SentRound x = houses(0, 0, 0, 0, 0, 0, 0, 0, 0, 0, 0, 0, 0, 0);
            readOnce(x, 3, new int[14]);
            due("ways(3, 0), all", x.ways(3, 0), 14);
            due("ways(3, 1), none", x.ways(3, 1), 0);
            due("ways(2, 0), another piece", x.ways(2, 0), 0);
            SentRound y = houses(0, 1, 1, 0, 1);
            readOnce(y, 0, 1, 1, 1);
            due("ways(0, 0)", y.ways(0, 0), 1);
            due("ways(0, 1)", y.ways(0, 1), 2);
            y.takeBack(1);
            due("ways(0, 1), one is taken back", y.ways(0, 1), 1);
        });
    }

    private static void chance() {
        edge(TERMS, "of all ways to call as many HOUSES WAY 1 the share with a SCORE at least that", () -> {
            SentRound x = houses(0, 0, 1, 1);
            readOnce(x, 0, 5, 5, 5, 5);
            due("ways(0, 2), all alike", x.ways(0, 2), 1000000);
            readOnce(x, 1, 1, 2, 3, 4);
            due("ways(1, 2), the greatest alone: 1 of 6", x.ways(1, 2), 166666);
            readOnce(x, 2, 3, 4, 1, 2);
            due("ways(2, 2), the least: all", x.ways(2, 2), 1000000);
            readOnce(x, 3, 2, 4, 1, 5);
            due("ways(3, 2), 6 of 3, 5, 6, 6, 7, 9: 4 of 6", x.ways(3, 2), 666666);
            SentRound y = telling(7, 8);
            due("all are of way 0", y.ways(0, 2), -3);
            SentRound z = houses(0, 1, 0);
            tellAll(z, 8, 9);
            due("ways(0, 2): 9 and 8 of 0, 8, 9", z.ways(0, 2), 666666);
            SentRound t = houses(0, 1, 0);
            tellAll(t, 9, 8);
            due("ways(0, 2): 9 alone of 0, 9, 8", t.ways(0, 2), 333333);
            SentRound n = houses(0, 1, 0);
            tellAll(n, -9, -8);
            due("ways(0, 2): all of 0, -9, -8", n.ways(0, 2), 1000000);
        });
        edge(TERMS, "in millionths, rounded down.", () -> {
            SentRound x = houses(0, 0, 0, 0, 0, 0, 0, 1, 1, 1, 1, 1, 1);
            readOnce(x, 0, 1, 2, 3, 4, 5, 6, 7, 8, 9, 10, 11, 12, 13);
            due("ways(0, 2): 1 of 1716", x.ways(0, 2), 582);
            readOnce(x, 1, 13, 12, 11, 10, 9, 8, 7, 6, 5, 4, 3, 2, 1);
            due("ways(1, 2): 1716 of 1716", x.ways(1, 2), 1000000);
            readOnce(x, 2, 1, 0, 0, 0, 0, 0, 0, 0, 0, 0, 0, 0, 1);
            due("ways(2, 2): all but the 462 with neither 1", x.ways(2, 2), 730769);
            SentRound y = houses(1, 1, 1, 1, 1, 1, 1, 1, 1, 1, 1, 1, 0);
            readOnce(y, 0, 1, 1, 1, 1, 1, 1, 1, 1, 1, 1, 1, 1, 0);
            due("ways(0, 2): 1 of 13", y.ways(0, 2), 76923);
        });
    }

    private static void refusedWays() {
        edge(27, "NOT (2): one WAY has none", () -> {
            SentRound x = houses(0, 0, 1);
            due("ways(0, 2), none takes part", x.ways(0, 2), -3);
            readOnce(x, 0, 1, 2);
            due("ways(0, 2), none of way 1", x.ways(0, 2), -3);
            x.reading(2, 1, 0, 1);
            due("ways(1, 2), none of way 0", x.ways(1, 2), -3);
            x.reading(0, 1, 0, 1);
            due("ways(1, 2), one of each", x.ways(1, 2), 1000000);
            due("ways(0, 1): a count is no refusal", x.ways(0, 1), 0);
            due("ways(0, 2) without houses", new SentRound().ways(0, 2), -3);
        });
        edge(TERMS, "HOUSES of WAY 0 and of WAY 1 that TAKE PART, in all 13 at most.", () -> {
            SentRound x = houses(0, 1, 0, 1, 0, 1, 0, 1, 0, 1, 0, 1, 0, 1);
            for (int h = 0; h < 13; h++) x.reading(h, 0, 0, 5);
            due("ways(0, 2), 13 of 14 houses", x.ways(0, 2), 1000000);
            x.reading(13, 0, 0, 5);
            due("ways(0, 2), 14", x.ways(0, 2), -4);
        });
        edge(27, "FULL (2): more than 13.", () -> {
            SentRound x = houses(1, 0, 0, 0, 0, 0, 0, 0, 0, 0, 0, 0, 0, 0);
            readOnce(x, 0, new int[14]);
            due("ways(0, 2)", x.ways(0, 2), -4);
            due("ways(0, 0): a count is no refusal", x.ways(0, 0), 13);
            due("ways(0, 1)", x.ways(0, 1), 1);
            due("score(0)", x.score(0), 0);
            x.takeBack(13);
            due("ways(0, 2), 13 are left", x.ways(0, 2), 1000000);
            SentRound y = many(14);
            readOnce(y, 0, new int[14]);
            due("ways(0, 2), 14 of way 0: NOT comes first", y.ways(0, 2), -3);
        });
        edge(27, "BAD", () -> {
            SentRound x = houses(0, 1);
            readOnce(x, 0, 1, 1);
            for (int p : row(-1, 4)) due("ways(" + p + ", 0)", x.ways(p, 0), -2);
            for (int what : row(-1, 3)) due("ways(0, " + what + ")", x.ways(0, what), -2);
            due("ways(1, 3), none takes part: BAD comes first", x.ways(1, 3), -2);
            for (int w : WILD) {
                due("ways(" + w + ", 2)", x.ways(w, 2), -2);
                due("ways(0, " + w + ")", x.ways(0, w), -2);
            }
        });
    }

    private static void score() {
        edge(TERMS, "SCORE: the sum of what those of WAY 1 TOLD.", () -> {
            SentRound x = houses(0, 1, 1, 0, 1);
            due("score(0), none takes part", x.score(0), 0);
            readOnce(x, 0, 7, 1, 2, 9, -9);
            due("score(0)", x.score(0), -6000);
            x.takeBack(4);
            due("score(0), one is taken back", x.score(0), 3000);
            x.reading(0, 1, 0, 5);
            due("score(1), none of way 1", x.score(1), 0);
        });
        edge(28, "SCORE.", () -> {
            SentRound x = houses(1, 1, 1, 1, 1, 1, 1, 1, 1, 1, 1, 1, 1, 1);
            x.pass(1);
            x.reading(0, 3, 0, 20000);
            x.reading(0, 3, 1, -20000);
            for (int h = 1; h < 14; h++) x.reading(h, 3, 1, 20000);
            due("score(3), the most that can be", x.score(3), 800000000L);
        });
        edge(28, "BAD: the least long.", () -> {
            SentRound x = houses(1);
            for (int p : row(-1, 4)) due("score(" + p + ")", x.score(p), Long.MIN_VALUE);
            for (int p : WILD) due("score(" + p + ")", x.score(p), Long.MIN_VALUE);
        });
    }
}
