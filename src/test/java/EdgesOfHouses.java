/** Edges of the days, houses and readings: promises 1 to 10, and the terms that they use. */
final class EdgesOfHouses extends EdgeCase {
    static void all() {
        aNewObject();
        days();
        houses();
        doubts();
        readings();
        limitsOfReadings();
        readingsOfASheet();
        refusedReadingsOfASheet();
        takenBack();
        about();
        known();
        asOf();
        factor();
    }

    private static void aNewObject() {
        edge(1, "DAY 0", () -> {
            SentRound x = new SentRound();
            due("count(0)", x.count(0), 0);
            due("asOf(0)", x.asOf(0), -1);
            due("asOf(1)", x.asOf(1), -2);
        });
        edge(1, "no HOUSES", () -> {
            SentRound x = new SentRound();
            due("count(1)", x.count(1), 0);
            due("doubt(0, 10)", x.doubt(0, 10), -2);
            due("many(0, 0)", x.many(0, 0), -2);
            due("run(0)", x.run(0), -2);
            due("house(0)", x.house(0), 0);
        });
        edge(1, "all SHEETS are LOST", () -> {
            for (int s = 0; s < 4; s++) due("lose(" + s + ")", new SentRound().lose(s), NULL);
        });
    }

    private static void days() {
        edge(TERMS, "399; it is a DAY (0 at first), that goes on.", () -> {
            SentRound x = many(1);
            toDay(x, 399);
            due("count(0)", x.count(0), 399);
            due("reading(0, 0, 399, 5), the last day", x.reading(0, 0, 399, 5), 0);
            due("reading(0, 0, 400, 5)", x.reading(0, 0, 400, 5), -2);
            due("asOf(399)", x.asOf(399), -1);
            due("asOf(400)", x.asOf(400), -2);
            due("drift(0, 399)", x.drift(0, 399), 0);
            due("drift(0, 400)", x.drift(0, 400), BAD_INT);
        });
        edge(2, "n DAYS (1 to 100) go by: the DAY then.", () -> {
            SentRound x = new SentRound();
            for (int n : row(0, -1, 101)) due("pass(" + n + ")", x.pass(n), -2);
            due("count(0)", x.count(0), 0);
            due("pass(1), the least", x.pass(1), 1);
            due("pass(100), the most", x.pass(100), 101);
            due("count(0)", x.count(0), 101);
        });
        edge(2, "BAD: also above 399.", () -> {
            SentRound x = new SentRound();
            toDay(x, 300);
            due("pass(100) to 400", x.pass(100), -2);
            due("count(0)", x.count(0), 300);
            due("pass(99) to 399", x.pass(99), 399);
            due("pass(1)", x.pass(1), -2);
            for (int n : WILD) due("pass(" + n + ") on day 399", x.pass(n), -2);
            due("count(0)", x.count(0), 399);
        });
    }

    private static void houses() {
        edge(TERMS, "HOUSES 0 .. 13 (14 at most) have a WAY (0, 1)", () -> {
            SentRound x = houses(1, 0, 1, 0, 1, 0, 1, 0, 1, 0, 1, 0, 1);
            due("many(13, 0) ahead of the 14th", x.many(13, 0), -2);
            due("house(1)", x.house(1), 13);
            due("house(1), a 15th", x.house(1), -4);
            due("many(13, 0)", x.many(13, 0), 0);
            due("many(14, 0)", x.many(14, 0), -2);
            readOnce(x, 3, new int[14]);
            due("ways(3, 0)", x.ways(3, 0), 6);
            due("ways(3, 1)", x.ways(3, 1), 8);
        });
        edge(3, "A HOUSE more: its number.", () -> {
            SentRound x = new SentRound();
            for (int h = 0; h < 14; h++) due("house(" + h % 2 + ")", x.house(h % 2), h);
            due("count(1)", x.count(1), 14);
        });
        edge(3, "BAD", () -> {
            SentRound x = new SentRound();
            for (int w : row(-1, 2)) due("house(" + w + ")", x.house(w), -2);
            for (int w : WILD) due("house(" + w + ")", x.house(w), -2);
            due("count(1)", x.count(1), 0);
        });
        edge(3, "FULL.", () -> {
            SentRound x = many(13);
            due("house(0), the last", x.house(0), 13);
            due("house(0)", x.house(0), -4);
            due("house(1)", x.house(1), -4);
            due("house(2): BAD comes first", x.house(2), -2);
            due("house(-1): BAD comes first", x.house(-1), -2);
            due("count(1)", x.count(1), 14);
        });
    }

    private static void doubts() {
        edge(TERMS, "and a DOUBT (1 to 1000; 10 at first).", () -> {
            SentRound x = many(14);
            due("doubt(0, 1), the least", x.doubt(0, 1), 10);
            due("doubt(13, 1000), the most", x.doubt(13, 1000), 10);
            due("doubt(0, 0)", x.doubt(0, 0), -2);
            due("doubt(13, 1001)", x.doubt(13, 1001), -2);
            due("doubt(0, 5) is as it was", x.doubt(0, 5), 1);
            due("doubt(13, 5) is as it was", x.doubt(13, 5), 1000);
        });
        edge(4, "DOUBT of a HOUSE: what it was.", () -> {
            SentRound x = many(2);
            due("doubt(1, 7)", x.doubt(1, 7), 10);
            due("doubt(1, 7)", x.doubt(1, 7), 7);
            due("doubt(1, 8)", x.doubt(1, 8), 7);
            due("doubt(0, 8), another house", x.doubt(0, 8), 10);
        });
        edge(4, "BAD.", () -> {
            due("doubt(0, 5) without houses", new SentRound().doubt(0, 5), -2);
            SentRound x = many(2);
            for (int h : row(-1, 2)) due("doubt(" + h + ", 5)", x.doubt(h, 5), -2);
            for (int w : WILD) {
                due("doubt(" + w + ", 5)", x.doubt(w, 5), -2);
                due("doubt(0, " + w + ")", x.doubt(0, w), -2);
            }
            due("doubt(0, 5)", x.doubt(0, 5), 10);
        });
    }

    private static void readings() {
        edge(TERMS, "a HOUSE read a PIECE on a DAY (not behind the DAY)", () -> {
            SentRound x = many(1);
            due("reading on day 0 of 0", x.reading(0, 0, 0, 1), 0);
            due("reading on day 1 of 0", x.reading(0, 0, 1, 1), -2);
            x.pass(7);
            due("reading on day 0 of 7", x.reading(0, 0, 0, 1), 1);
            due("reading on day 7 of 7", x.reading(0, 0, 7, 1), 2);
            due("reading on day 8 of 7", x.reading(0, 0, 8, 1), -2);
            due("reading on day -1", x.reading(0, 0, -1, 1), -2);
            due("about(2, 2)", x.about(2, 2), 7);
        });
        edge(TERMS, "as a VALUE (-20000 to 20000); it is told on the DAY.", () -> {
            SentRound x = many(1);
            x.pass(9);
            due("reading of -20000", x.reading(0, 0, 2, -20000), 0);
            due("reading of 20000", x.reading(0, 0, 2, 20000), 1);
            due("reading of -20001", x.reading(0, 0, 2, -20001), -2);
            due("reading of 20001", x.reading(0, 0, 2, 20001), -2);
            due("about(0, 3)", x.about(0, 3), -20000);
            due("about(1, 3)", x.about(1, 3), 20000);
            due("about(0, 4), told on day 9, not on day 2", x.about(0, 4), 9);
        });
        edge(TERMS, "PIECES 0 .. 3.", () -> {
            SentRound x = many(1);
            due("reading(0, 0, 0, 1)", x.reading(0, 0, 0, 1), 0);
            due("reading(0, 3, 0, 1)", x.reading(0, 3, 0, 1), 1);
            due("reading(0, 4, 0, 1)", x.reading(0, 4, 0, 1), -2);
            due("reading(0, -1, 0, 1)", x.reading(0, -1, 0, 1), -2);
            for (int p = 0; p < 4; p++) due("many(0, " + p + ")", x.many(0, p), p % 3 == 0 ? 1 : 0);
        });
        edge(5, "A READING more: its number.", () -> {
            SentRound x = many(2);
            for (int r = 0; r < 6; r++) due("reading", x.reading(r % 2, r % 4, 0, r), r);
            due("reading that is BAD", x.reading(0, 0, 1, 1), -2);
            x.takeBack(5);
            due("reading: neither BAD ones nor those taken back shift the number", x.reading(0, 0, 0, 1), 6);
            due("count(2)", x.count(2), 7);
        });
        edge(5, "BAD: also a DAY behind the DAY", () -> {
            due("reading(0, 0, 0, 0) without houses", new SentRound().reading(0, 0, 0, 0), -2);
            SentRound x = many(2);
            x.pass(5);
            due("reading(0, 0, 6, 0)", x.reading(0, 0, 6, 0), -2);
            due("reading(2, 0, 0, 0)", x.reading(2, 0, 0, 0), -2);
            due("reading(-1, 0, 0, 0)", x.reading(-1, 0, 0, 0), -2);
            for (int w : WILD) {
                due("reading(" + w + ", 0, 0, 0)", x.reading(w, 0, 0, 0), -2);
                due("reading(0, " + w + ", 0, 0)", x.reading(0, w, 0, 0), -2);
                due("reading(0, 0, " + w + ", 0)", x.reading(0, 0, w, 0), -2);
                if (w != -2) due("reading(0, 0, 0, " + w + ")", x.reading(0, 0, 0, w), -2);
            }
            due("count(2)", x.count(2), 0);
        });
    }

    /** Each house reads each piece 8 times, as far as there are readings. */
    private static SentRound withReadings(int readings) {
        SentRound x = many(5);
        for (int r = 0; r < readings; r++) x.reading(r / 32, r / 8 % 4, 0, r);
        return x;
    }

    private static void limitsOfReadings() {
        edge(TERMS, "READINGS, 150 at most, 8 of a HOUSE and a PIECE at most", () -> {
            SentRound x = withReadings(149);
            due("count(2)", x.count(2), 149);
            due("the 150th", x.reading(4, 3, 0, 1), 149);
            due("the 151st", x.reading(4, 3, 0, 1), -4);
            due("count(2)", x.count(2), 150);
            due("many(0, 0)", x.many(0, 0), 8);
        });
        edge(5, "FULL: 150, or 8 of this HOUSE and PIECE.", () -> {
            SentRound x = many(2);
            for (int r = 0; r < 8; r++) due("reading(1, 2, 0, 1)", x.reading(1, 2, 0, 1), r);
            due("a ninth of house 1 and piece 2", x.reading(1, 2, 0, 1), -4);
            due("another piece", x.reading(1, 3, 0, 1), 8);
            due("another house", x.reading(0, 2, 0, 1), 9);
            due("many(1, 2)", x.many(1, 2), 8);
        });
        edge(5, "FULL: 150", () -> {
            SentRound x = withReadings(150);
            due("a house and piece with room", x.reading(4, 3, 0, 1), -4);
            due("another with room", x.reading(4, 2, 0, 1), -4);
            x.takeBack(149);
            due("one is taken back: it is a READING still", x.reading(4, 3, 0, 1), -4);
            due("count(2)", x.count(2), 150);
        });
        edge(5, "or 8 of this HOUSE and PIECE.", () -> {
            SentRound x = many(1);
            for (int r = 0; r < 8; r++) x.reading(0, 0, 0, 1);
            for (int r = 0; r < 8; r++) x.takeBack(r);
            due("all are taken back: they are READINGS still", x.reading(0, 0, 0, 1), -4);
            due("many(0, 0)", x.many(0, 0), 0);
        });
        edge(TERMS, "Refusals, the first that fits, in the order told at each act: BAD -2", () -> {
            SentRound x = withReadings(150);
            due("house", x.reading(5, 3, 0, 1), -2);
            due("piece", x.reading(4, 4, 0, 1), -2);
            due("day", x.reading(4, 3, 1, 1), -2);
            due("value", x.reading(4, 3, 0, 20001), -2);
            due("value of a full house and piece", x.reading(0, 0, 0, -20001), -2);
        });
    }

    private static void readingsOfASheet() {
        edge(6, "READINGS of a SHEET: its items, HOUSE, PIECE, DAY, VALUE one behind the other", () -> {
            for (int type = 0; type < 3; type++) {
                SentRound x = many(2);
                x.pass(4);
                filled(x, 3, type, 1, 3, 2, -77, 0, 2, 4, 120);
                due("read(3)", x.read(3), 2);
                int[] firsts = {1, 3, 2, -77, 4, -1, 1}, seconds = {0, 2, 4, 120, 4, -1, 1};
                for (int what = 0; what <= 6; what++) {
                    due("about(0, " + what + ")", x.about(0, what), firsts[what]);
                    due("about(1, " + what + ")", x.about(1, what), seconds[what]);
                }
                items(x, 3, type, 1, 3, 2, -77, 0, 2, 4, 120);
            }
        });
        edge(6, "as many as are whole", () -> {
            for (int n : row(0, 1, 3, 4, 7, 8, 31, 32)) {
                SentRound x = many(1);
                x.sheet(0, 2, n);
                due("read(0) of " + n + " items", x.read(0), n / 4);
                due("count(2)", x.count(2), n / 4);
            }
            SentRound x = many(4);
            x.sheet(0, 0, 60);
            for (int i = 0; i < 15; i++) x.put(0, 0, 4 * i, i / 4);
            due("read(0) of 60 items", x.read(0), 15);
            due("count(2)", x.count(2), 15);
        });
        edge(6, "as long as each may be", () -> {
            SentRound x = many(2);
            filled(x, 0, 2, 0, 0, 0, 1, 1, 0, 0, 20001, 0, 0, 0, 3);
            due("read(0), the second may not be", x.read(0), 1);
            due("count(2): the third is not read either", x.count(2), 1);
            filled(x, 1, 2, 2, 0, 0, 1, 0, 0, 0, 1);
            due("read(1), the first may not be", x.read(1), 0);
            due("count(2)", x.count(2), 1);
            filled(x, 2, 2, 0, 1, 0, 20000, 0, 1, 1, 1);
            due("read(2), a day behind the day", x.read(2), 1);
            due("count(8): no finding", x.count(8), 0);
        });
    }

    private static void refusedReadingsOfASheet() {
        edge(6, "as long as each may be: how many.", () -> {
            SentRound x = many(1);
            x.sheet(0, 0, 40);
            due("read(0), 8 of a house and piece", x.read(0), 8);
            due("read(0) once more", x.read(0), 0);
            x = withReadings(147);
            x.sheet(0, 2, 16);
            for (int i = 0; i < 4; i++) {
                x.put(0, 2, 4 * i, 4);
                x.put(0, 2, 4 * i + 1, 3);
            }
            due("read(0), 3 up to the 150th", x.read(0), 3);
            due("count(2)", x.count(2), 150);
            x = new SentRound();
            x.sheet(0, 2, 4);
            due("read(0) without houses", x.read(0), 0);
        });
        edge(6, "BAD", () -> {
            SentRound x = many(1);
            for (int s : row(-1, 4)) due("read(" + s + ")", x.read(s), -2);
            for (int s : WILD) due("read(" + s + ")", x.read(s), -2);
            due("count(8)", x.count(8), 0);
        });
        edge(6, "NULL.", () -> {
            SentRound x = many(1);
            for (int s = 0; s < 4; s++) due("read(" + s + ")", x.read(s), NULL);
            due("count(8)", x.count(8), 1);
            x.sheet(3, 0, 4);
            x.lose(3);
            due("read(3), lost again", x.read(3), NULL);
            due("count(2)", x.count(2), 0);
        });
    }

    private static void takenBack() {
        edge(TERMS, "It can be taken back on the DAY.", () -> {
            SentRound x = many(1);
            x.reading(0, 0, 0, 1);
            x.pass(6);
            x.asOf(2);
            x.takeBack(0);
            due("about(0, 5): on the day, not as of when", x.about(0, 5), 6);
        });
        edge(7, "A READING is taken back: 1.", () -> {
            SentRound x = many(1);
            readAll(x, 0, row(4, 6));
            due("takeBack(1)", x.takeBack(1), 1);
            due("told(0, 0)", x.told(0, 0), 4000);
            due("takeBack(0)", x.takeBack(0), 1);
            due("told(0, 0), none is left", x.told(0, 0), NOT_INT);
            due("count(2)", x.count(2), 2);
            due("count(3)", x.count(3), 0);
        });
        edge(7, "BAD", () -> {
            due("takeBack(0) without readings", many(1).takeBack(0), -2);
            SentRound x = many(1);
            readAll(x, 0, row(4, 6));
            for (int r : row(-1, 2, 150)) due("takeBack(" + r + ")", x.takeBack(r), -2);
            for (int r : WILD) due("takeBack(" + r + ")", x.takeBack(r), -2);
            due("count(3)", x.count(3), 2);
        });
        edge(7, "NOT: it is already.", () -> {
            SentRound x = many(1);
            x.reading(0, 0, 0, 4);
            x.takeBack(0);
            due("takeBack(0) on the same day", x.takeBack(0), -3);
            x.pass(3);
            due("takeBack(0) later", x.takeBack(0), -3);
            due("about(0, 5) is as it was", x.about(0, 5), 0);
            SentRound y = many(1);
            y.reading(0, 0, 0, 4);
            y.pass(3);
            y.takeBack(0);
            y.asOf(1);
            due("about(0, 6): known then", y.about(0, 6), 1);
            due("takeBack(0), as of when it was known", y.takeBack(0), -3);
        });
    }

    private static void about() {
        edge(8, "0 HOUSE, 1 PIECE, 2 DAY it was read on, 3 VALUE, 4 DAY it was told", () -> {
            SentRound x = many(14);
            x.pass(9);
            x.reading(13, 3, 4, -20000);
            int[] due = {13, 3, 4, -20000, 9};
            for (int what = 0; what < 5; what++) due("about(0, " + what + ")", x.about(0, what), due[what]);
        });
        edge(8, "5 that it was taken back (NONE)", () -> {
            SentRound x = many(1);
            x.reading(0, 0, 0, 1);
            x.reading(0, 0, 0, 1);
            due("about(0, 5)", x.about(0, 5), -1);
            x.takeBack(0);
            due("about(0, 5), on day 0", x.about(0, 5), 0);
            due("about(1, 5)", x.about(1, 5), -1);
        });
        edge(8, "6 whether it is KNOWN.", () -> {
            SentRound x = many(1);
            x.reading(0, 0, 0, 1);
            due("about(0, 6)", x.about(0, 6), 1);
            x.takeBack(0);
            due("about(0, 6)", x.about(0, 6), 0);
        });
        edge(8, "BAD: -30000.", () -> {
            due("about(0, 0) without readings", many(1).about(0, 0), -30000);
            SentRound x = withReadings(150);
            due("about(149, 3), the last", x.about(149, 3), 149);
            for (int r : row(-1, 150)) due("about(" + r + ", 0)", x.about(r, 0), -30000);
            for (int what : row(-1, 7)) due("about(0, " + what + ")", x.about(0, what), -30000);
            for (int w : WILD) {
                due("about(" + w + ", 0)", x.about(w, 0), -30000);
                due("about(0, " + w + ")", x.about(0, w), -30000);
            }
        });
    }

    private static void known() {
        edge(TERMS, "a READING is KNOWN, if it was told up to it", () -> {
            SentRound x = many(1);
            x.pass(5);
            x.reading(0, 0, 0, 1);
            x.pass(5);
            int[] days = {4, 5, 6, 10, -1}, known = {0, 1, 1, 1, 1};
            for (int i = 0; i < days.length; i++) {
                x.asOf(days[i]);
                due("about(0, 6) as of " + days[i], x.about(0, 6), known[i]);
                due("many(0, 0) as of " + days[i], x.many(0, 0), known[i]);
            }
        });
        edge(TERMS, "and not taken back up to it.", () -> {
            SentRound x = many(1);
            x.reading(0, 0, 0, 1);
            x.pass(5);
            x.takeBack(0);
            x.pass(5);
            int[] days = {0, 4, 5, 6, 10, -1}, known = {1, 1, 0, 0, 0, 0};
            for (int i = 0; i < days.length; i++) {
                x.asOf(days[i]);
                due("about(0, 6) as of " + days[i], x.about(0, 6), known[i]);
                due("count(3) as of " + days[i], x.count(3), known[i]);
            }
        });
        edge(TERMS, "KNOWN, if it was told up to it, and not taken back up to it.", () -> {
            SentRound x = many(1);
            x.pass(5);
            x.reading(0, 0, 0, 1);
            x.takeBack(0);
            x.pass(1);
            for (int day : row(4, 5, 6, -1)) {
                x.asOf(day);
                due("about(0, 6), told and taken back on day 5, as of " + day, x.about(0, 6), 0);
            }
        });
        edge(TERMS, "A HOUSE TAKES PART in a PIECE, if it has a KNOWN READING of it.", () -> {
            SentRound x = many(2);
            x.reading(1, 2, 0, 1);
            due("count(6)", x.count(6), 1);
            due("count(5), another piece", x.count(5), 0);
            due("told(0, 2), another house", x.told(0, 2), NOT_INT);
            x.pass(1);
            x.takeBack(0);
            due("count(6), taken back", x.count(6), 0);
            due("told(1, 2)", x.told(1, 2), NOT_INT);
            x.asOf(0);
            due("count(6), as of the day before", x.count(6), 1);
            due("told(1, 2)", x.told(1, 2), 1000);
        });
    }

    private static void asOf() {
        edge(TERMS, "AS OF a DAY (told, not behind the DAY; NONE, at first: the DAY)", () -> {
            SentRound x = many(1);
            x.pass(3);
            due("asOf(4)", x.asOf(4), -2);
            due("asOf(3), the day itself", x.asOf(3), -1);
            x.pass(1);
            x.reading(0, 0, 0, 1);
            due("count(3): as of 3 it is not told yet", x.count(3), 0);
            due("asOf(-1)", x.asOf(-1), 3);
            due("count(3)", x.count(3), 1);
            x.pass(1);
            x.reading(0, 0, 0, 1);
            due("count(3): NONE goes on with the day", x.count(3), 2);
        });
        edge(9, "AS OF a DAY (NONE: the DAY): what it was.", () -> {
            SentRound x = new SentRound();
            due("asOf(0)", x.asOf(0), -1);
            due("asOf(0)", x.asOf(0), 0);
            due("asOf(-1)", x.asOf(-1), 0);
            due("asOf(-1)", x.asOf(-1), -1);
        });
        edge(9, "BAD.", () -> {
            SentRound x = new SentRound();
            x.pass(8);
            x.asOf(6);
            due("asOf(9)", x.asOf(9), -2);
            for (int d : WILD) due("asOf(" + d + ")", x.asOf(d), -2);
            due("asOf(8): it was 6 still", x.asOf(8), 6);
        });
    }

    private static void factor() {
        edge(TERMS, "(K told, 1 to 5; 2 at first)", () -> {
            SentRound x = new SentRound();
            due("count(10)", x.count(10), 2);
            due("factor(0)", x.factor(0), -2);
            due("factor(6)", x.factor(6), -2);
            due("count(10)", x.count(10), 2);
            due("factor(1), the least", x.factor(1), 2);
            due("factor(5), the most", x.factor(5), 1);
            due("count(10)", x.count(10), 5);
        });
        edge(10, "K: what it was.", () -> {
            SentRound x = new SentRound();
            for (int k = 1; k <= 5; k++) due("factor(" + k + ")", x.factor(k), k == 1 ? 2 : k - 1);
        });
        edge(10, "BAD.", () -> {
            SentRound x = new SentRound();
            for (int k : row(0, -1, 6)) due("factor(" + k + ")", x.factor(k), -2);
            for (int k : WILD) due("factor(" + k + ")", x.factor(k), -2);
            due("factor(3)", x.factor(3), 2);
        });
    }
}
