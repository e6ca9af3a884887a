/** Edges of the sheets, of count() and digest(): promises 34 to 41, and the terms that they use. */
final class EdgesOfSheets extends EdgeCase {
    static void all() {
        terms();
        sheet();
        lose();
        put();
        lowestBits();
        get();
        copy();
        refusedCopy();
        write();
        refusedWrite();
        count();
        digest();
    }

    private static void terms() {
        edge(TERMS, "SHEETS 0 .. 3 are LOST (at first) or a row of a TYPE: 0 bytes, 1 shorts, 2 ints", () -> {
            SentRound x = new SentRound();
            for (int s = 0; s < 4; s++) due("put(" + s + ", 0, 0, 1)", x.put(s, 0, 0, 1), NULL);
            for (int s : row(-1, 4)) due("sheet(" + s + ", 0, 1)", x.sheet(s, 0, 1), -2);
            for (int type = 0; type < 3; type++) due("sheet(3, " + type + ", 1)", x.sheet(3, type, 1), 1);
            for (int type : row(-1, 3)) due("sheet(3, " + type + ", 1)", x.sheet(3, type, 1), -2);
            due("sheet(0, 0, 1)", x.sheet(0, 0, 1), 1);
        });
        edge(TERMS, "of 0 to 60 items (0 at first).", () -> {
            for (int type = 0; type < 3; type++) {
                SentRound x = new SentRound();
                due("sheet(0, " + type + ", 60)", x.sheet(0, type, 60), 60);
                due("sheet(0, " + type + ", 61)", x.sheet(0, type, 61), -2);
                for (int i = 0; i < 60; i++) due("get(0, " + type + ", " + i + ")", x.get(0, type, i), 0);
                due("count(8)", x.count(8), 0);
                due("sheet(0, " + type + ", 0)", x.sheet(0, type, 0), 0);
                due("get(0, " + type + ", 0) of none", x.get(0, type, 0), BAD_INT);
                due("count(8)", x.count(8), 2);
            }
        });
        edge(TERMS, "FINDINGS (answers -10 less the number; they change nothing but count() 8)", () -> {
            SentRound x = new SentRound();
            due("count(8), before any", x.count(8), 0);
            x.sheet(0, 0, 2);
            x.sheet(1, 1, 2);
            due("NULL", x.lose(3), -11);
            due("count(8)", x.count(8), 1);
            due("INDEX", x.put(0, 0, 2, 1), -12);
            due("count(8)", x.count(8), 2);
            due("CAST", x.put(0, 1, 0, 1), -13);
            due("count(8)", x.count(8), 3);
            due("STORE", x.copy(0, 0, 1, 0, 1), -14);
            due("count(8)", x.count(8), 4);
            due("SIZE", x.sheet(0, 0, -1), -15);
            due("count(8)", x.count(8), 5);
            items(x, 0, 0, 0, 0);
        });
        edge(TERMS, "1 NULL: the SHEET is LOST; 2 INDEX: there is no such item; 3 CAST: it has another TYPE", () -> {
            SentRound x = new SentRound();
            due("put of a lost one", x.put(2, 2, 99, 0), -11);
            x.sheet(2, 2, 3);
            due("put of item 3 of 3", x.put(2, 2, 3, 0), -12);
            due("put of item -1", x.put(2, 2, -1, 0), -12);
            due("put as bytes", x.put(2, 0, 0, 0), -13);
            due("put as shorts", x.put(2, 1, 0, 0), -13);
        });
        edge(TERMS, "4 STORE: unlike TYPES; 5 SIZE: below 0.", () -> {
            for (int a = 0; a < 3; a++) {
                for (int b = 0; b < 3; b++) {
                    SentRound x = new SentRound();
                    x.sheet(0, a, 1);
                    x.sheet(1, b, 1);
                    due("copy of type " + a + " to " + b, x.copy(0, 0, 1, 0, 1), a == b ? 1 : -14);
                }
            }
            due("sheet(0, 0, -1)", new SentRound().sheet(0, 0, -1), -15);
        });
    }

    private static void sheet() {
        edge(34, "A SHEET is a new row of a TYPE with n items: n.", () -> {
            SentRound x = new SentRound();
            filled(x, 3, 2, 7, 8, 9);
            due("sheet(3, 2, 3), anew", x.sheet(3, 2, 3), 3);
            items(x, 3, 2, 0, 0, 0);
            filled(x, 3, 2, 7, 8, 9);
            x.sheet(3, 0, 1);
            x.sheet(3, 2, 3);
            items(x, 3, 2, 0, 0, 0);
            x.put(3, 2, 2, 5);
            x.lose(3);
            x.sheet(3, 2, 3);
            items(x, 3, 2, 0, 0, 0);
            x.sheet(3, 1, 2);
            due("put(3, 2, 0, 1), it is of shorts now", x.put(3, 2, 0, 1), CAST);
            due("put(3, 1, 2, 1), it has 2 items now", x.put(3, 1, 2, 1), INDEX);
        });
        edge(34, "BAD: SHEET, TYPE, above 60", () -> {
            SentRound x = new SentRound();
            for (int s : row(-1, 4)) due("sheet(" + s + ", 0, -1): BAD comes before SIZE", x.sheet(s, 0, -1), -2);
            for (int t : row(-1, 3)) due("sheet(0, " + t + ", -1): BAD comes before SIZE", x.sheet(0, t, -1), -2);
            for (int n : row(61, MAX)) due("sheet(0, 0, " + n + ")", x.sheet(0, 0, n), -2);
            for (int w : WILD) {
                due("sheet(" + w + ", 0, 1)", x.sheet(w, 0, 1), -2);
                due("sheet(0, " + w + ", 1)", x.sheet(0, w, 1), -2);
            }
            due("count(8)", x.count(8), 0);
            due("lose(0): no sheet was made", x.lose(0), NULL);
        });
        edge(34, "SIZE.", () -> {
            SentRound x = new SentRound();
            due("sheet(0, 0, 0), the least", x.sheet(0, 0, 0), 0);
            filled(x, 1, 2, 4, 5);
            for (int n : row(-1, -2, MIN)) due("sheet(1, 0, " + n + ")", x.sheet(1, 0, n), SIZE);
            due("count(8)", x.count(8), 5);
            items(x, 1, 2, 4, 5);
            due("lose(1), as many as before", x.lose(1), 2);
            due("sheet(2, 0, -1) of a lost one", x.sheet(2, 0, -1), SIZE);
            due("lose(2): it is lost still", x.lose(2), NULL);
        });
    }

    private static void lose() {
        edge(35, "It is LOST: how many items it had.", () -> {
            SentRound x = new SentRound();
            x.sheet(0, 2, 60);
            x.sheet(3, 0, 0);
            due("lose(0), full", x.lose(0), 60);
            due("lose(3), empty", x.lose(3), 0);
            due("get(0, 2, 0)", x.get(0, 2, 0), BAD_INT);
            due("count(8)", x.count(8), 1);
        });
        edge(35, "BAD", () -> {
            SentRound x = new SentRound();
            for (int s : row(-1, 4)) due("lose(" + s + ")", x.lose(s), -2);
            for (int s : WILD) due("lose(" + s + ")", x.lose(s), -2);
            due("count(8)", x.count(8), 0);
        });
        edge(35, "NULL.", () -> {
            SentRound x = new SentRound();
            due("lose(0)", x.lose(0), NULL);
            x.sheet(0, 0, 1);
            x.lose(0);
            due("lose(0) twice", x.lose(0), NULL);
            due("count(8)", x.count(8), 1);
        });
    }

    private static void put() {
        edge(36, "Item i, treated as of a TYPE, becomes v", () -> {
            SentRound x = new SentRound();
            x.sheet(3, 2, 60);
            due("put(3, 2, 0, 5), the first", x.put(3, 2, 0, 5), 1);
            due("put(3, 2, 59, 6), the last", x.put(3, 2, 59, 6), 1);
            due("get(3, 2, 0)", x.get(3, 2, 0), 5);
            due("get(3, 2, 1)", x.get(3, 2, 1), 0);
            due("get(3, 2, 59)", x.get(3, 2, 59), 6);
            due("count(8)", x.count(8), 0);
        });
        edge(36, "BAD", () -> {
            SentRound x = new SentRound();
            x.sheet(0, 0, 1);
            for (int s : row(-1, 4)) due("put(" + s + ", 0, 0, 1)", x.put(s, 0, 0, 1), -2);
            for (int t : row(-1, 3)) due("put(0, " + t + ", 0, 1)", x.put(0, t, 0, 1), -2);
            for (int t : row(-1, 3)) due("put(1, " + t + ", 0, 1): BAD comes before NULL", x.put(1, t, 0, 1), -2);
            for (int w : WILD) {
                due("put(" + w + ", 0, 0, 1)", x.put(w, 0, 0, 1), -2);
                due("put(0, " + w + ", 0, 1)", x.put(0, w, 0, 1), -2);
            }
            due("count(8)", x.count(8), 0);
            items(x, 0, 0, 0);
        });
        edge(36, "NULL; CAST; INDEX.", () -> {
            SentRound x = new SentRound();
            due("put(0, 1, -1, 1): NULL comes first", x.put(0, 1, -1, 1), NULL);
            filled(x, 0, 0, 7, 7);
            due("put(0, 1, 2, 1): CAST comes before INDEX", x.put(0, 1, 2, 1), CAST);
            due("put(0, 1, -1, 1): CAST comes before INDEX", x.put(0, 1, -1, 1), CAST);
            for (int i : row(2, -1, 60)) due("put(0, 0, " + i + ", 1)", x.put(0, 0, i, 1), INDEX);
            for (int i : WILD) due("put(0, 0, " + i + ", 1)", x.put(0, 0, i, 1), INDEX);
            items(x, 0, 0, 7, 7);
        });
    }

    private static void lowestBits() {
        edge(36, "becomes v (the lowest bits that it has): 1.", () -> {
            SentRound x = new SentRound();
            filled(x, 0, 0, 127, 128, 255, 256, -128, -129, MAX, MIN);
            items(x, 0, 0, 127, -128, -1, 0, -128, 127, -1, 0);
            filled(x, 1, 1, 32767, 32768, 65535, 65536, -32768, -32769, MAX, MIN);
            items(x, 1, 1, 32767, -32768, -1, 0, -32768, 32767, -1, 0);
            filled(x, 2, 2, MAX, MIN, -1, 65536);
            items(x, 2, 2, MAX, MIN, -1, 65536);
        });
    }

    private static void get() {
        edge(37, "Item i of it.", () -> {
            SentRound x = new SentRound();
            filled(x, 0, 0, 1, -2, 3);
            items(x, 0, 0, 1, -2, 3);
            x.sheet(3, 1, 60);
            x.put(3, 1, 59, -30000);
            due("get(3, 1, 59)", x.get(3, 1, 59), -30000);
            due("count(8)", x.count(8), 0);
        });
        edge(37, "BAD: the least int", () -> {
            SentRound x = new SentRound();
            x.sheet(0, 0, 1);
            for (int s : row(-1, 4)) due("get(" + s + ", 0, 0)", x.get(s, 0, 0), BAD_INT);
            for (int t : row(-1, 3)) due("get(0, " + t + ", 0)", x.get(0, t, 0), BAD_INT);
            for (int t : row(-1, 3)) due("get(1, " + t + ", 0)", x.get(1, t, 0), BAD_INT);
            for (int w : WILD) {
                due("get(" + w + ", 0, 0)", x.get(w, 0, 0), BAD_INT);
                due("get(0, " + w + ", 0)", x.get(0, w, 0), BAD_INT);
            }
            due("count(8): BAD is no finding, and comes before NULL", x.count(8), 0);
        });
        edge(37, "so are NULL, CAST, INDEX (count() 8 tells).", () -> {
            SentRound x = new SentRound();
            due("get(0, 1, -1), lost", x.get(0, 1, -1), BAD_INT);
            due("count(8): NULL comes first", x.count(8), 1);
            filled(x, 0, 0, 7, 7);
            due("get(0, 1, 2)", x.get(0, 1, 2), BAD_INT);
            due("count(8): CAST comes before INDEX", x.count(8), 3);
            int[] items = {2, -1, 60, MIN, MAX};
            for (int i : items) {
                x.lose(1);
                due("get(0, 0, " + i + ")", x.get(0, 0, i), BAD_INT);
                due("count(8)", x.count(8), 2);
            }
        });
    }

    private static void copy() {
        edge(38, "n items of SHEET s, from i on, come to SHEET t", () -> {
            for (int type = 0; type < 3; type++) {
                SentRound x = new SentRound();
                filled(x, 0, type, 1, 2, 3, 4);
                filled(x, 3, type, 7, 7, 7);
                due("copy(0, 1, 3, 0, 2)", x.copy(0, 1, 3, 0, 2), 1);
                items(x, 3, type, 2, 3, 7);
                items(x, 0, type, 1, 2, 3, 4);
                due("copy(0, 0, 3, 2, 1), to the last", x.copy(0, 0, 3, 2, 1), 1);
                items(x, 3, type, 2, 3, 1);
                due("copy(3, 0, 0, 1, 3), all of it", x.copy(3, 0, 0, 1, 3), 1);
                items(x, 0, type, 1, 2, 3, 1);
            }
            SentRound y = new SentRound();
            y.sheet(0, 2, 60);
            y.sheet(1, 2, 60);
            y.put(0, 2, 59, 9);
            due("copy of 60 items", y.copy(0, 0, 1, 0, 60), 1);
            due("get(1, 2, 59)", y.get(1, 2, 59), 9);
        });
        edge(38, "(perhaps s, as they were)", () -> {
            SentRound x = new SentRound();
            filled(x, 0, 2, 1, 2, 3, 4, 5);
            due("copy(0, 0, 0, 1, 4)", x.copy(0, 0, 0, 1, 4), 1);
            items(x, 0, 2, 1, 1, 2, 3, 4);
            filled(x, 0, 2, 1, 2, 3, 4, 5);
            due("copy(0, 1, 0, 0, 4)", x.copy(0, 1, 0, 0, 4), 1);
            items(x, 0, 2, 2, 3, 4, 5, 5);
            due("copy(0, 0, 0, 0, 5)", x.copy(0, 0, 0, 0, 5), 1);
            items(x, 0, 2, 2, 3, 4, 5, 5);
        });
    }

    private static void refusedCopy() {
        edge(38, "BAD: the SHEETS", () -> {
            SentRound x = new SentRound();
            x.sheet(0, 0, 1);
            for (int s : row(-1, 4)) {
                due("copy(" + s + ", 0, 0, 0, 1)", x.copy(s, 0, 0, 0, 1), -2);
                due("copy(0, 0, " + s + ", 0, 1)", x.copy(0, 0, s, 0, 1), -2);
                due("copy(" + s + ", 0, 1, 0, 1): BAD comes before NULL", x.copy(s, 0, 1, 0, 1), -2);
                due("copy(1, 0, " + s + ", 0, 1): BAD comes before NULL", x.copy(1, 0, s, 0, 1), -2);
            }
            for (int w : WILD) {
                due("copy(" + w + ", 0, 0, 0, 1)", x.copy(w, 0, 0, 0, 1), -2);
                due("copy(0, 0, " + w + ", 0, 1)", x.copy(0, 0, w, 0, 1), -2);
            }
            due("count(8)", x.count(8), 0);
        });
        edge(38, "NULL: s, t", () -> {
            SentRound x = new SentRound();
            x.sheet(0, 0, 1);
            due("copy(0, 0, 1, 0, 1)", x.copy(0, 0, 1, 0, 1), NULL);
            due("copy(1, 0, 0, 0, 1)", x.copy(1, 0, 0, 0, 1), NULL);
            due("copy(1, 0, 1, 0, 0)", x.copy(1, 0, 1, 0, 0), NULL);
            due("copy(1, -1, 0, 9, -1): NULL comes before INDEX", x.copy(1, -1, 0, 9, -1), NULL);
            due("count(8)", x.count(8), 1);
        });
        edge(38, "STORE", () -> {
            SentRound x = new SentRound();
            x.sheet(0, 0, 1);
            x.sheet(1, 2, 1);
            due("copy(0, 0, 1, 0, 0), even of none", x.copy(0, 0, 1, 0, 0), STORE);
            due("copy(1, -1, 0, 9, -1): STORE comes before INDEX", x.copy(1, -1, 0, 9, -1), STORE);
            due("count(8)", x.count(8), 4);
        });
        edge(38, "INDEX: below 0, not so many.", () -> {
            SentRound x = new SentRound();
            filled(x, 0, 1, 1, 2, 3);
            filled(x, 1, 1, 7, 7);
            int[][] wrong = {{-1, 0, 1}, {0, -1, 1}, {0, 0, -1}, {0, 0, 3}, {2, 0, 2}, {3, 0, 1}, {0, 1, 2}, {0, 2, 1},
                {4, 0, 0}, {0, 3, 0}, {MAX, 0, 1}, {0, MAX, 1}, {0, 0, MAX}, {MAX, 0, MAX}, {1, 1, MAX}, {MIN, 0, 1},
                {0, MIN, 1}, {0, 0, MIN}, {MIN, MIN, MIN}, {-1, 0, 0}, {0, -1, 0}, {-1, 0, 2}, {2, 1, MAX - 1}};
            for (int[] w : wrong) {
                due("copy(0, " + w[0] + ", 1, " + w[1] + ", " + w[2] + ")", x.copy(0, w[0], 1, w[1], w[2]), INDEX);
            }
            items(x, 1, 1, 7, 7);
            due("copy(0, 3, 1, 2, 0): none, at both ends", x.copy(0, 3, 1, 2, 0), 1);
            due("copy(0, 1, 1, 0, 2): to both ends", x.copy(0, 1, 1, 0, 2), 1);
            items(x, 1, 1, 2, 3);
            x.sheet(2, 1, 0);
            due("copy(2, 0, 2, 0, 0) of an empty one", x.copy(2, 0, 2, 0, 0), 1);
            due("copy(2, 0, 2, 0, 1) of an empty one", x.copy(2, 0, 2, 0, 1), INDEX);
        });
    }

    private static void write() {
        edge(39, "What HOUSES TOLD of a PIECE, by numbers (0: one that does not TAKE PART)", () -> {
            SentRound x = many(4);
            readAll(x, 3, row(1), row(), row(-70), row());
            filled(x, 3, 2, 9, 9, 9, 9, 9);
            due("write(3, 3)", x.write(3, 3), 4);
            items(x, 3, 2, 1000, 0, -70000, 0, 9);
            x.takeBack(1);
            due("write(3, 3), one is taken back", x.write(3, 3), 4);
            items(x, 3, 2, 1000, 0, 0, 0, 9);
            due("write(0, 3), none takes part", x.write(0, 3), 4);
            items(x, 3, 2, 0, 0, 0, 0, 9);
        });
        edge(39, "comes to a SHEET from item 0 on (the lowest bits)", () -> {
            SentRound x = many(3);
            readOnce(x, 0, 70, -70, 1);
            filled(x, 0, 0, 9, 9, 9);
            x.write(0, 0);
            items(x, 0, 0, (byte) 70000, (byte) -70000, (byte) 1000);
            filled(x, 1, 1, 9, 9, 9);
            x.write(0, 1);
            items(x, 1, 1, 70000 - 65536, 65536 - 70000, 1000);
        });
        edge(39, "as many as there are items: how many.", () -> {
            SentRound x = many(3);
            readOnce(x, 0, 1, 2, 3);
            for (int n = 0; n <= 5; n++) {
                x.sheet(0, 2, n);
                due("write(0, 0) to " + n + " items", x.write(0, 0), Math.min(n, 3));
                int[] due = {1000, 2000, 3000, 0, 0};
                for (int i = 0; i < n; i++) due("get(0, 2, " + i + ")", x.get(0, 2, i), due[i]);
            }
            SentRound y = new SentRound();
            filled(y, 0, 2, 9);
            due("write(0, 0) without houses", y.write(0, 0), 0);
            items(y, 0, 2, 9);
            SentRound z = many(14);
            z.sheet(0, 2, 60);
            due("write(0, 0), all houses", z.write(0, 0), 14);
        });
    }

    private static void refusedWrite() {
        edge(39, "BAD", () -> {
            SentRound x = many(1);
            x.sheet(0, 0, 1);
            for (int p : row(-1, 4)) due("write(" + p + ", 0)", x.write(p, 0), -2);
            for (int p : row(-1, 4)) due("write(" + p + ", 1): BAD comes before NULL", x.write(p, 1), -2);
            for (int s : row(-1, 4)) due("write(0, " + s + ")", x.write(0, s), -2);
            for (int w : WILD) {
                due("write(" + w + ", 0)", x.write(w, 0), -2);
                due("write(0, " + w + ")", x.write(0, w), -2);
            }
            due("count(8)", x.count(8), 0);
        });
        edge(39, "NULL.", () -> {
            SentRound x = many(1);
            for (int s = 0; s < 4; s++) due("write(0, " + s + ")", x.write(0, s), NULL);
            due("count(8)", x.count(8), 1);
        });
    }

    private static void count() {
        edge(40, "0 the DAY, 1 HOUSES, 2 READINGS, 3 KNOWN ones", () -> {
            SentRound x = many(3);
            x.pass(4);
            readAll(x, 0, row(1, 2), row(3));
            x.pass(1);
            x.takeBack(0);
            int[] due = {5, 3, 3, 2};
            for (int what = 0; what < 4; what++) due("count(" + what + ")", x.count(what), due[what]);
            x.asOf(4);
            due("count(3), as of the day before", x.count(3), 3);
            x.asOf(3);
            due("count(3), as of two days before", x.count(3), 0);
            due("count(0) is the day still", x.count(0), 5);
            due("count(2)", x.count(2), 3);
        });
        edge(40, "4 to 7 HOUSES that TAKE PART in PIECES 0 to 3", () -> {
            SentRound x = many(14);
            readOnce(x, 0, new int[14]);
            readAll(x, 1, row(1, 1, 1), row(), row(1));
            x.reading(13, 3, 0, 5);
            int[] due = {14, 2, 0, 1};
            for (int p = 0; p < 4; p++) due("count(" + (4 + p) + ")", x.count(4 + p), due[p]);
        });
        edge(40, "8 the number of the latest FINDING (0 before any)", () -> {
            SentRound x = new SentRound();
            due("count(8)", x.count(8), 0);
            x.pass(101);
            x.house(2);
            x.read(4);
            due("count(8): a refusal is no finding", x.count(8), 0);
            x.sheet(0, 0, -1);
            due("count(8)", x.count(8), 5);
            x.lose(0);
            due("count(8): the latest", x.count(8), 1);
            x.sheet(0, 0, 3);
            x.put(0, 0, 0, 1);
            x.read(4);
            due("count(8): what goes well leaves it", x.count(8), 1);
        });
        edge(40, "9 bytes of DOUBTS, 10 K.", () -> {
            SentRound x = new SentRound();
            due("count(9)", x.count(9), 0);
            due("count(10)", x.count(10), 2);
            typed(x, "1+x");
            x.factor(5);
            due("count(9)", x.count(9), 3);
            due("count(10)", x.count(10), 5);
        });
        edge(40, "BAD.", () -> {
            SentRound x = many(1);
            for (int what : row(-1, 11)) due("count(" + what + ")", x.count(what), -2);
            for (int what : WILD) due("count(" + what + ")", x.count(what), -2);
        });
    }

    private static long fold(long h, long... all) {
        for (long a : all) h = 31 * h + a;
        return h;
    }

    private static void digest() {
        edge(41, "h is 17; h becomes 31 h and each of: count() 0 to 7, 9, 10", () -> {
            long h = fold(17, 0, 0, 0, 0, 0, 0, 0, 0, 0, 2);
            for (int p = 0; p < 4; p++) h = fold(h, 0, 0, -3, -3, -3, -3, -3, -3, -3, -3, -1);
            due("digest() of a new object", new SentRound().digest(), fold(h, 0));
            SentRound x = new SentRound();
            x.pass(7);
            x.factor(3);
            x.type('1');
            h = fold(17, 7, 0, 0, 0, 0, 0, 0, 0, 1, 3);
            for (int p = 0; p < 4; p++) h = fold(h, 0, 0, -3, -3, -3, -3, -3, -3, -3, -3, -1);
            due("digest()", x.digest(), fold(h, -1));
            x.lose(0);
            due("digest(): count() 8 is not of it", x.digest(), fold(h, -1));
        });
        edge(41, "of each HOUSE its DOUBT, and of PIECES told()", () -> {
            SentRound x = many(2);
            x.doubt(1, 1000);
            x.reading(1, 0, 0, -5);
            x.reading(1, 0, 0, -4);
            x.reading(0, 3, 0, 2);
            long h = fold(17, 0, 2, 3, 3, 1, 0, 0, 1, 0, 2);
            h = fold(h, 10, NOT_INT, NOT_INT, NOT_INT, 2000, 1000, -4500, NOT_INT, NOT_INT, NOT_INT);
            h = fold(h, 2, 1, -4500, 1, -4500, 1, -4500, 1, -4500, 1, 1);
            for (int p = 1; p < 3; p++) h = fold(h, 0, 0, -3, -3, -3, -3, -3, -3, -3, -3, -1);
            h = fold(h, 1, 1, 2000, 1, 2000, 1, 2000, 1, 2000, 1, -1);
            due("digest()", x.digest(), fold(h, 0));
        });
        edge(41, "of PIECES agreeing(), common() 0, number() by RULES 0 to 3 (above, below; -3 each: NOT), widest()", () -> {
            SentRound x = many(3);
            readAll(x, 2, row(0), row(0, 0, 1), row(1));
            long h = fold(17, 0, 3, 5, 5, 0, 0, 3, 0, 0, 2);
            h = fold(h, 10, NOT_INT, NOT_INT, 0, NOT_INT);
            h = fold(h, 10, NOT_INT, NOT_INT, 333, NOT_INT);
            h = fold(h, 10, NOT_INT, NOT_INT, 1000, NOT_INT);
            for (int p = 0; p < 2; p++) h = fold(h, 0, 0, -3, -3, -3, -3, -3, -3, -3, -3, -1);
            h = fold(h, 7, 3, 333, 1, 833, 2, 1333, 3, x.number(2, 3, 0), 1, 1);
            h = fold(h, 0, 0, -3, -3, -3, -3, -3, -3, -3, -3, -1);
            due("digest()", x.digest(), fold(h, 0));
        });
        edge(41, "fault(); as longs that wrap.", () -> {
            SentRound x = new SentRound();
            long before = x.digest();
            typed(x, "1/");
            x.wipe();
            due("digest(), empty again", x.digest(), before);
            typed(x, "1x");
            long first = x.digest();
            typed(x, "1+");
            due("digest(), the fault one further", x.digest(), first + 1);
            typed(x, "11");
            due("digest(), no fault", x.digest(), first - 2);
        });
    }
}
