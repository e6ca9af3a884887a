import java.util.function.Supplier;

/**
 * What is refused changes nothing, and neither does what is only asked: of two objects that were
 * made alike one gets the call, and then all that can be seen of both must be the same.
 */
final class EdgesOfRefusals extends EdgeCase {
    private static final String NOTHING = "They change nothing (FINDINGS but count() 8).";

    interface Call { long on(SentRound x); }

    static void all() {
        order();
        ofDaysAndHouses();
        ofReadings();
        ofFullOnes();
        ofTexts();
        ofSheets();
        ofItems();
        ofCopies();
        ofAsked();
        asking();
    }

    /** Of each two kinds that can fit one call, the call that both fit. */
    private static void order() {
        edge(TERMS, "BAD -2 (a number not as told, no such thing), NULL, NOT -3, FULL -4, other FINDINGS.", () -> {
            due("BAD before NULL: put of type 3 to a lost one", ordinary().put(3, 3, 0, 0), -2);
            due("BAD before NOT: agree of one with itself", ordinary().agree(0, 0, 1), -2);
            due("BAD before NOT: claim of no house, a fault", withFault().claim(3), -2);
            due("BAD before FULL: house of way 2, full", full().house(2), -2);
            due("BAD before FULL: reading of day 1, full", full().reading(0, 0, 1, 0), -2);
            due("BAD before FULL: type of 256, full", full().type(256), -2);
            due("BAD before SIZE: sheet of type 3 with -1 items", ordinary().sheet(0, 3, -1), -2);
            due("BAD before STORE: copy to sheet 4", ordinary().copy(0, 0, 4, 0, 1), -2);
            due("BAD before INDEX: copy to sheet 4 from -1 on", ordinary().copy(0, -1, 4, 0, 1), -2);
            due("BAD before CAST: put of type 3", ordinary().put(0, 3, 0, 0), -2);
            due("NULL before CAST and INDEX: put to a lost one", ordinary().put(3, 2, 99, 0), NULL);
            due("NULL before STORE and INDEX: copy of a lost one", ordinary().copy(3, -1, 0, 0, 1), NULL);
            due("CAST before INDEX: put of item 99", ordinary().put(0, 2, 99, 0), CAST);
            due("STORE before INDEX: copy from 99 on", ordinary().copy(0, 99, 1, 0, 1), STORE);
            SentRound x = many(14);
            readOnce(x, 0, new int[14]);
            due("NOT before FULL: ways of 14 houses of way 0", x.ways(0, 2), -3);
        });
    }

    /** Day 12, looked at as of 11; 3 houses, 6 readings, one taken back; sheet 3 is lost. */
    private static SentRound ordinary() {
        SentRound x = houses(0, 1, 0);
        x.doubt(1, 7);
        x.doubt(2, 3);
        x.pass(10);
        x.reading(0, 0, 0, 5);
        x.reading(0, 0, 10, 8);
        x.reading(1, 0, 5, 6);
        x.reading(2, 0, 3, -4);
        x.reading(2, 0, 3, 9);
        x.reading(2, 3, 9, 77);
        x.pass(2);
        x.takeBack(1);
        x.factor(3);
        x.asOf(11);
        typed(x, "3+4");
        filled(x, 0, 0, 1, -2, 3);
        filled(x, 1, 1, 400, 5);
        filled(x, 2, 2, 0, 0, 0, 70000, 9, 0, 0, 1);
        return x;
    }

    private static SentRound withFault() {
        SentRound x = ordinary();
        x.type('/');
        return x;
    }

    private static SentRound atTheLastDay() {
        SentRound x = ordinary();
        toDay(x, 399);
        return x;
    }

    private static SentRound full() {
        SentRound x = many(14);
        for (int r = 0; r < 150; r++) x.reading(r / 32, r / 8 % 4, 0, r);
        for (int i = 0; i < 60; i++) x.type('0' + i % 10);
        return x;
    }

    private static String seen(SentRound x) {
        StringBuilder all = new StringBuilder();
        for (int what = 0; what <= 10; what++) if (what != 8) all.append(x.count(what)).append(' ');
        int asOf = x.asOf(-1);
        all.append("as of ").append(asOf).append(" digest ").append(x.digest());
        x.asOf(asOf);
        all.append(' ').append(x.digest()).append(" reckon ").append(x.reckon());
        for (int p = 0; p < 4; p++) {
            all.append(" ways ").append(x.ways(p, 0)).append(' ').append(x.ways(p, 1)).append(' ').append(x.score(p));
        }
        int readings = x.count(2);
        for (int r = 0; r < readings; r += readings > 10 ? 21 : 1) {
            all.append(" reading");
            for (int what = 0; what <= 6; what++) all.append(' ').append(x.about(r, what));
        }
        for (int s = 0; s < 4; s++) {
            all.append(" sheet");
            for (int type = 0; type < 3; type++) for (int i = 0; i < 4; i++) all.append(' ').append(x.get(s, type, i));
            all.append(' ').append(x.lose(s));
        }
        return all.toString();
    }

    /** The call finds nothing new, so count() 8 stays. */
    private static void leaves(Supplier<SentRound> made, String name, Call call, long want) {
        leaves(made, name, call, want, 0);
    }

    private static void leaves(Supplier<SentRound> made, String name, Call call, long want, int finding) {
        SentRound alone = made.get(), called = made.get();
        int before = finding == 5 ? 1 : 5;
        for (SentRound x : new SentRound[] {alone, called}) {
            if (before == 5) x.sheet(3, 0, -1);
            else x.lose(3);
        }
        due(name, call.on(called), want);
        due("count(8) behind " + name, called.count(8), finding == 0 ? before : finding);
        String was = seen(alone), is = seen(called);
        if (!was.equals(is)) wrong(name + " changed\n  " + was + "\nto\n  " + is);
    }

    private static void ordinary(String name, Call call, long want) { leaves(EdgesOfRefusals::ordinary, name, call, want); }

    private static void finds(String name, Call call, int want) {
        leaves(EdgesOfRefusals::ordinary, name, call, want, -10 - want);
    }

    private static void ofDaysAndHouses() {
        edge(TERMS, NOTHING, () -> {
            for (int n : row(0, -1, 101, MIN, MAX)) ordinary("pass(" + n + ")", x -> x.pass(n), -2);
            for (int n : row(1, 100)) leaves(EdgesOfRefusals::atTheLastDay, "pass(" + n + ")", x -> x.pass(n), -2);
        });
        edge(TERMS, NOTHING, () -> {
            for (int w : row(-1, 2, MIN, MAX)) ordinary("house(" + w + ")", x -> x.house(w), -2);
        });
        edge(TERMS, NOTHING, () -> {
            for (int d : row(0, 1001, -1, MAX)) ordinary("doubt(0, " + d + ")", x -> x.doubt(0, d), -2);
            for (int h : row(-1, 3, MAX)) ordinary("doubt(" + h + ", 50)", x -> x.doubt(h, 50), -2);
        });
        edge(TERMS, NOTHING, () -> {
            for (int d : row(-2, 13, MIN, MAX)) ordinary("asOf(" + d + ")", x -> x.asOf(d), -2);
        });
        edge(TERMS, NOTHING, () -> {
            for (int k : row(0, 6, MIN, MAX)) ordinary("factor(" + k + ")", x -> x.factor(k), -2);
        });
    }

    private static void ofReadings() {
        edge(TERMS, NOTHING, () -> {
            for (int h : row(-1, 3, MAX)) ordinary("reading of house " + h, x -> x.reading(h, 0, 0, 1), -2);
            for (int p : row(-1, 4, MAX)) ordinary("reading of piece " + p, x -> x.reading(0, p, 0, 1), -2);
            for (int d : row(-1, 13, MAX)) ordinary("reading on day " + d, x -> x.reading(0, 0, d, 1), -2);
            for (int v : row(-20001, 20001, MIN, MAX)) ordinary("reading of " + v, x -> x.reading(0, 0, 0, v), -2);
        });
        edge(TERMS, NOTHING, () -> {
            for (int r : row(-1, 6, MIN, MAX)) ordinary("takeBack(" + r + ")", x -> x.takeBack(r), -2);
            ordinary("takeBack(1)", x -> x.takeBack(1), -3);
        });
        edge(TERMS, NOTHING, () -> {
            for (int s : row(-1, 4, MIN, MAX)) ordinary("read(" + s + ")", x -> x.read(s), -2);
            finds("read(3)", x -> x.read(3), NULL);
            ordinary("read(1), that has no whole one", x -> x.read(1), 0);
        });
    }

    private static void ofFullOnes() {
        edge(TERMS, NOTHING, () -> leaves(EdgesOfRefusals::full, "house(1), full", x -> x.house(1), -4));
        edge(TERMS, NOTHING, () -> {
            leaves(EdgesOfRefusals::full, "reading, full", x -> x.reading(4, 3, 0, 1), -4);
            leaves(EdgesOfRefusals::full, "reading, 8 of this", x -> x.reading(0, 0, 0, 1), -4);
            leaves(EdgesOfRefusals::full, "reading of day 1, full", x -> x.reading(4, 3, 1, 1), -2);
        });
        edge(TERMS, NOTHING, () -> {
            leaves(EdgesOfRefusals::full, "type(49), full", x -> x.type(49), -4);
            leaves(EdgesOfRefusals::full, "type(256), full", x -> x.type(256), -2);
        });
    }

    private static void ofTexts() {
        edge(TERMS, NOTHING, () -> {
            for (int b : row(-1, 256, MIN, MAX)) ordinary("type(" + b + ")", x -> x.type(b), -2);
        });
        edge(TERMS, NOTHING, () -> leaves(EdgesOfRefusals::withFault, "reckon(), a fault", SentRound::reckon, -3));
        edge(TERMS, NOTHING, () -> {
            for (int h : row(-1, 3, MIN, MAX)) ordinary("claim(" + h + ")", x -> x.claim(h), -2);
            leaves(EdgesOfRefusals::withFault, "claim(0), a fault", x -> x.claim(0), -3);
        });
    }

    private static void ofSheets() {
        edge(TERMS, NOTHING, () -> {
            for (int s : row(-1, 4, MAX)) ordinary("sheet(" + s + ", 0, 1)", x -> x.sheet(s, 0, 1), -2);
            for (int t : row(-1, 3, MAX)) ordinary("sheet(0, " + t + ", 1)", x -> x.sheet(0, t, 1), -2);
            for (int n : row(61, MAX)) ordinary("sheet(0, 1, " + n + ")", x -> x.sheet(0, 1, n), -2);
            for (int n : row(-1, MIN)) finds("sheet(0, 1, " + n + ")", x -> x.sheet(0, 1, n), SIZE);
        });
        edge(TERMS, NOTHING, () -> {
            for (int s : row(-1, 4, MIN, MAX)) ordinary("lose(" + s + ")", x -> x.lose(s), -2);
            finds("lose(3)", x -> x.lose(3), NULL);
        });
        edge(TERMS, NOTHING, () -> {
            for (int p : row(-1, 4, MAX)) ordinary("write(" + p + ", 2)", x -> x.write(p, 2), -2);
            for (int s : row(-1, 4, MAX)) ordinary("write(0, " + s + ")", x -> x.write(0, s), -2);
            finds("write(0, 3)", x -> x.write(0, 3), NULL);
        });
    }

    private static void ofItems() {
        edge(TERMS, NOTHING, () -> {
            for (int s : row(-1, 4, MAX)) ordinary("put(" + s + ", 0, 0, 9)", x -> x.put(s, 0, 0, 9), -2);
            for (int t : row(-1, 3, MAX)) ordinary("put(0, " + t + ", 0, 9)", x -> x.put(0, t, 0, 9), -2);
            finds("put(3, 0, 0, 9)", x -> x.put(3, 0, 0, 9), NULL);
            finds("put(0, 1, 0, 9)", x -> x.put(0, 1, 0, 9), CAST);
            for (int i : row(-1, 3, MIN, MAX)) finds("put(0, 0, " + i + ", 9)", x -> x.put(0, 0, i, 9), INDEX);
        });
        edge(TERMS, NOTHING, () -> {
            for (int s : row(-1, 4, MAX)) ordinary("get(" + s + ", 0, 0)", x -> x.get(s, 0, 0), BAD_INT);
            for (int t : row(-1, 3, MAX)) ordinary("get(0, " + t + ", 0)", x -> x.get(0, t, 0), BAD_INT);
            Supplier<SentRound> made = EdgesOfRefusals::ordinary;
            leaves(made, "get(3, 0, 0)", x -> x.get(3, 0, 0), BAD_INT, 1);
            leaves(made, "get(0, 1, 0)", x -> x.get(0, 1, 0), BAD_INT, 3);
            for (int i : row(-1, 3, MAX)) leaves(made, "get(0, 0, " + i + ")", x -> x.get(0, 0, i), BAD_INT, 2);
        });
    }

    private static void ofCopies() {
        edge(TERMS, NOTHING, () -> {
            for (int s : row(-1, 4, MAX)) ordinary("copy(" + s + ", 0, 0, 0, 1)", x -> x.copy(s, 0, 0, 0, 1), -2);
            for (int t : row(-1, 4, MAX)) ordinary("copy(0, 0, " + t + ", 0, 1)", x -> x.copy(0, 0, t, 0, 1), -2);
            finds("copy(3, 0, 0, 0, 1)", x -> x.copy(3, 0, 0, 0, 1), NULL);
            finds("copy(0, 0, 3, 0, 1)", x -> x.copy(0, 0, 3, 0, 1), NULL);
            finds("copy(0, 0, 1, 0, 1)", x -> x.copy(0, 0, 1, 0, 1), STORE);
            for (int i : row(-1, 2, MAX)) finds("copy(0, " + i + ", 0, 0, 2)", x -> x.copy(0, i, 0, 0, 2), INDEX);
            for (int j : row(-1, 2, MAX)) finds("copy(0, 0, 0, " + j + ", 2)", x -> x.copy(0, 0, 0, j, 2), INDEX);
            for (int n : row(-1, 3, MAX)) finds("copy(0, 0, 0, 1, " + n + ")", x -> x.copy(0, 0, 0, 1, n), INDEX);
        });
    }

    private static void ofAsked() {
        edge(TERMS, NOTHING, () -> {
            ordinary("about(6, 0)", x -> x.about(6, 0), -30000);
            ordinary("drift(4, 0)", x -> x.drift(4, 0), BAD_INT);
            ordinary("many(3, 0)", x -> x.many(3, 0), -2);
            ordinary("told(3, 0)", x -> x.told(3, 0), BAD_INT);
            ordinary("told(0, 1)", x -> x.told(0, 1), NOT_INT);
            ordinary("agree(0, 0, 0)", x -> x.agree(0, 0, 0), -2);
            ordinary("agree(0, 2, 3)", x -> x.agree(0, 2, 3), -3);
            ordinary("agreeing(4)", x -> x.agreeing(4), -2);
            ordinary("common(4, 0)", x -> x.common(4, 0), BAD_INT);
            ordinary("common(1, 1)", x -> x.common(1, 1), NOT_INT);
            ordinary("chain(0, 0)", x -> x.chain(0, 0), -2);
            ordinary("via(0, 3)", x -> x.via(0, 3), -2);
        });
        edge(TERMS, NOTHING, () -> {
            ordinary("number(0, 4, 0)", x -> x.number(0, 4, 0), BAD_LONG);
            ordinary("number(1, 0, 0)", x -> x.number(1, 0, 0), NOT_LONG);
            ordinary("mark(3, 0)", x -> x.mark(3, 0), BAD_INT);
            ordinary("mark(0, 3)", x -> x.mark(0, 3), NOT_INT);
            ordinary("judged(3, 0)", x -> x.judged(3, 0), -2);
            ordinary("judged(0, 3)", x -> x.judged(0, 3), -3);
            ordinary("run(3)", x -> x.run(3), -2);
            ordinary("within(0, 4, 0)", x -> x.within(0, 4, 0), BAD_LONG);
            ordinary("within(1, 0, 0)", x -> x.within(1, 0, 0), NOT_LONG);
            ordinary("widest(4)", x -> x.widest(4), -2);
            ordinary("share(0, 2)", x -> x.share(0, 2), BAD_LONG);
            ordinary("share(1, 0)", x -> x.share(1, 0), NOT_LONG);
            ordinary("parts(0, 2, 0)", x -> x.parts(0, 2, 0), BAD_LONG);
            ordinary("parts(0, 0, 0)", x -> x.parts(0, 0, 0), NOT_LONG);
            ordinary("ways(0, 3)", x -> x.ways(0, 3), -2);
            ordinary("ways(3, 2)", x -> x.ways(3, 2), -3);
            leaves(EdgesOfRefusals::full, "ways(0, 3), full", x -> x.ways(0, 3), -2);
            ordinary("score(4)", x -> x.score(4), Long.MIN_VALUE);
            ordinary("count(11)", x -> x.count(11), -2);
        });
    }

    /** An answer does not depend on what was asked before it, and what is asked leaves all as it is. */
    private static void asking() {
        edge(TERMS, "AS OF a DAY", () -> {
            SentRound y = ordinary();
            Call[] asked = {x -> x.about(1, 6), x -> x.drift(0, 7), x -> x.many(2, 0), x -> x.told(1, 0),
                x -> x.agree(0, 1, 0), x -> x.agreeing(0), x -> x.common(0, 0), x -> x.common(0, 1), x -> x.chain(0, 2),
                x -> x.via(1, 2), x -> x.number(0, 0, 0), x -> x.number(0, 1, 0), x -> x.number(0, 2, 0),
                x -> x.number(0, 3, 0), x -> x.mark(1, 0), x -> x.judged(1, 0), x -> x.run(2), x -> x.within(2, 0, 0),
                x -> x.widest(0), x -> x.share(0, 0), x -> x.parts(0, 0, 0), x -> x.ways(0, 2), x -> x.score(0),
                SentRound::fault, SentRound::reckon, x -> x.get(0, 0, 1), x -> x.count(3), SentRound::digest};
            for (int i = 0; i < asked.length; i++) ordinary("asked " + i, asked[i], asked[i].on(y));
            for (int i = asked.length - 1; i >= 0; i--) ordinary("asked " + i, asked[i], asked[i].on(y));
        });
    }
}
