import java.io.IOException;
import java.nio.file.Files;
import java.nio.file.Path;
import java.util.ArrayList;
import java.util.List;
import java.util.Map;
import java.util.TreeMap;

/**
 * Tests by sentence. Each edge quotes the words of the document that it holds to, makes its own
 * objects and fails alone; a failing one is told with these words.
 */
class EdgeCase {
    static final int TERMS = 0;
    static final int MIN = Integer.MIN_VALUE;
    static final int MAX = Integer.MAX_VALUE;
    static final int BAD_INT = Integer.MIN_VALUE;
    static final int NOT_INT = Integer.MIN_VALUE + 1;
    static final long BAD_LONG = Long.MIN_VALUE + 2;
    static final long NOT_LONG = Long.MIN_VALUE + 3;
    static final int NULL = -11, INDEX = -12, CAST = -13, STORE = -14, SIZE = -15;
    /** Least, greatest, and the first on both sides of nothing. */
    static final int[] WILD = {MIN, MIN + 1, -2, MAX - 1, MAX};

    private static final int PROMISES = 41;
    private static final Map<Integer, List<String>> QUOTED = new TreeMap<>();
    private static String now = "";
    private static boolean fails;
    private static int held;
    private static int broken;

    EdgeCase() { }

    interface Edge { void look(); }

    /** What the machine throws in a call is a wrong answer too. */
    static void edge(int promise, String words, Edge test) {
        now = (promise == TERMS ? "Terms" : "Promise " + promise) + " \"" + words + "\"";
        QUOTED.computeIfAbsent(promise, p -> new ArrayList<>()).add(words);
        fails = false;
        try {
            test.look();
        } catch (RuntimeException | StackOverflowError e) {
            wrong("threw " + e);
        }
        if (fails) broken++;
        else held++;
    }

    static void wrong(String what) {
        fails = true;
        System.out.println(now + ": " + what);
    }

    static void due(String call, long got, long want) {
        if (got != want) wrong(call + " answered " + got + ", due is " + want);
    }

    /** Every quote stands in its part of the document, and no promise is without an edge. */
    static void holdAgainst(Path document) throws IOException {
        for (int promise = 0; promise <= PROMISES; promise++) {
            if (!QUOTED.containsKey(promise)) {
                broken++;
                System.out.println("no edge of promise " + promise);
            }
        }
        if (!Files.exists(document)) return;
        String all = plain(Files.readString(document));
        for (Map.Entry<Integer, List<String>> e : QUOTED.entrySet()) {
            String part = partOf(all, e.getKey());
            for (String words : e.getValue()) {
                if (!part.contains(plain(words))) {
                    broken++;
                    System.out.println("the document does not say (" + e.getKey() + "): " + words);
                }
            }
        }
    }

    private static String plain(String text) { return text.replaceAll("[\\s`]+", " "); }

    private static String partOf(String all, int promise) {
        int from = all.indexOf(promise == TERMS ? "## Terms" : "## Promise " + promise + ":");
        int to = all.indexOf(promise == PROMISES ? "## Not promised" : "## Promise " + (promise + 1) + ":");
        return from < 0 || to < from ? "" : all.substring(from, to);
    }

    static boolean allHold() {
        System.out.println(held + " edges hold, " + broken + " do not");
        return broken == 0;
    }

    // ---- what the edges are made of

    static int[] row(int... values) { return values; }

    static SentRound houses(int... ways) {
        SentRound x = new SentRound();
        for (int w : ways) x.house(w);
        return x;
    }

    /** Houses of way 0. */
    static SentRound many(int houses) {
        return houses(new int[houses]);
    }

    /** House h reads the piece on day 0 as each value of the row h. */
    static void readAll(SentRound x, int piece, int[]... rows) {
        for (int h = 0; h < rows.length; h++) for (int v : rows[h]) x.reading(h, piece, 0, v);
    }

    /** Each house reads the piece once, on day 0. */
    static void readOnce(SentRound x, int piece, int... values) {
        for (int h = 0; h < values.length; h++) x.reading(h, piece, 0, values[h]);
    }

    static void toDay(SentRound x, int day) {
        while (x.count(0) < day) x.pass(Math.min(100, day - x.count(0)));
    }

    /**
     * Houses that told just these thousandths of piece 0, the first of them being house 1: the
     * pilot's points lie a seventh apart over all days, so the drift takes each whole number from
     * 0 to 143, and the pilot itself told 0.
     */
    static SentRound telling(int... told) {
        SentRound x = many(told.length + 1);
        tellAll(x, told);
        return x;
    }

    static void tellAll(SentRound x, int... told) {
        toDay(x, 399);
        x.reading(0, 0, 0, 0);
        for (int i = 0; i < 7; i++) x.reading(0, 0, 399, i == 0 ? 1 : 0);
        for (int h = 1; h <= told.length; h++) tellOne(x, h, told[h - 1]);
        due("told(0, 0) of the pilot", x.told(0, 0), 0);
        for (int h = 1; h <= told.length; h++) due("told(" + h + ", 0) as wished", x.told(h, 0), told[h - 1]);
    }

    /** Whole thousands by one reading, others by seven, that the drift takes down to the number. */
    private static void tellOne(SentRound x, int house, int told) {
        if (told % 1000 == 0) {
            x.reading(house, 0, 0, told / 1000);
            return;
        }
        int values = Math.floorDiv(7 * told + 999, 1000);
        int down = 1000 * values - 7 * told;
        for (int left = 7; left > 0; left--) {
            int v = Math.floorDiv(values, left), d = down / left;
            x.reading(house, 0, dayOfDrift(x, d), v);
            values -= v;
            down -= d;
        }
    }

    private static int dayOfDrift(SentRound x, int drift) {
        // the drift on a day is day / 2.793 to the nearest; reckoned here, for calls are dear
        for (int day = 0; day <= 399; day++) if (Math.floorDiv(2 * 1000 * day + 2793, 2 * 2793) == drift) return day;
        wrong("no day with drift " + drift);
        return 0;
    }

    static void typed(SentRound x, String text) {
        x.wipe();
        for (char c : text.toCharArray()) x.type(c);
    }

    static void filled(SentRound x, int s, int type, int... items) {
        x.sheet(s, type, items.length);
        for (int i = 0; i < items.length; i++) x.put(s, type, i, items[i]);
    }

    static void items(SentRound x, int s, int type, int... items) {
        for (int i = 0; i < items.length; i++) {
            due("get(" + s + ", " + type + ", " + i + ")", x.get(s, type, i), items[i]);
        }
    }

    static void number(SentRound x, int piece, int rule, long above, long below) {
        due("number(" + piece + ", " + rule + ", 0)", x.number(piece, rule, 0), above);
        due("number(" + piece + ", " + rule + ", 1)", x.number(piece, rule, 1), below);
    }
}
