import java.lang.reflect.InvocationTargetException;
import java.lang.reflect.Method;
import java.util.Arrays;
import java.util.Map;
import java.util.TreeMap;

/**
 * Every call with every combination of arguments at and beside the edges, in states from empty to
 * full, held against the slow Reference.
 */
public final class GridTest {
    private static final int MIN = Integer.MIN_VALUE, MAX = Integer.MAX_VALUE;
    private static final int CALLS_OF_AN_OBJECT = 512;
    private static final int[] HOUSE = {MIN, -1, 0, 1, 2, 3, 12, 13, 14, MAX};
    private static final int[] PIECE = {MIN, -1, 0, 1, 2, 3, 4, MAX};
    private static final int[] DAY = {MIN, -2, -1, 0, 1, 4, 5, 6, 19, 20, 21, 398, 399, 400, MAX};
    private static final int[] WHAT = {MIN, -1, 0, 1, 2, 3, MAX};
    private static final int[] SHEET = {MIN, -1, 0, 1, 2, 3, 4, MAX};
    private static final int[] TYPE = {MIN, -1, 0, 1, 2, 3, MAX};
    private static final int[] ITEM = {MIN, -1, 0, 1, 2, 59, 60, 61, MAX};
    private static final Map<String, int[][]> ARGUMENTS = new TreeMap<>();

    static {
        put("pass", new int[] {MIN, -1, 0, 1, 2, 99, 100, 101, MAX});
        put("house", WHAT);
        put("doubt", HOUSE, new int[] {MIN, -1, 0, 1, 2, 10, 999, 1000, 1001, MAX});
        put("reading", HOUSE, PIECE, DAY, new int[] {MIN, -20001, -20000, -1, 0, 20000, 20001, MAX});
        put("read", SHEET);
        put("takeBack", new int[] {MIN, -1, 0, 1, 5, 8, 148, 149, 150, MAX});
        put("about", new int[] {MIN, -1, 0, 1, 5, 8, 148, 149, 150, MAX}, new int[] {MIN, -1, 0, 1, 2, 3, 4, 5, 6, 7, MAX});
        put("asOf", DAY);
        put("factor", new int[] {MIN, -1, 0, 1, 2, 5, 6, MAX});
        put("drift", PIECE, DAY);
        put("many", HOUSE, PIECE);
        put("told", HOUSE, PIECE);
        put("agree", HOUSE, HOUSE, PIECE);
        put("agreeing", PIECE);
        put("common", PIECE, WHAT);
        put("chain", HOUSE, HOUSE);
        put("via", HOUSE, HOUSE);
        put("number", PIECE, new int[] {MIN, -1, 0, 1, 2, 3, 4, MAX}, WHAT);
        put("mark", HOUSE, PIECE);
        put("judged", HOUSE, PIECE);
        put("run", HOUSE);
        put("within", HOUSE, PIECE, WHAT);
        put("widest", PIECE);
        put("share", PIECE, WHAT);
        put("parts", PIECE, WHAT, WHAT);
        put("ways", PIECE, WHAT);
        put("score", PIECE);
        put("type", new int[] {MIN, -1, 0, '*', '+', '/', '0', '9', 254, 255, 256, MAX});
        put("wipe");
        put("fault");
        put("reckon");
        put("claim", HOUSE);
        put("sheet", SHEET, TYPE, ITEM);
        put("lose", SHEET);
        put("put", SHEET, TYPE, ITEM, new int[] {MIN, -129, -128, 127, 128, 32767, 32768, MAX});
        put("get", SHEET, TYPE, ITEM);
        put("copy", SHEET, ITEM, SHEET, ITEM, ITEM);
        put("write", PIECE, SHEET);
        put("count", new int[] {MIN, -1, 0, 1, 2, 3, 4, 5, 6, 7, 8, 9, 10, 11, MAX});
        put("digest");
    }

    private static void put(String name, int[]... values) { ARGUMENTS.put(name, values); }

    private final int state;
    private final Method mine;
    private final Method reference;
    private SentRound x;
    private Reference due;
    private int calls;
    private static int asked;
    private static int wrong;

    private GridTest(int state, Method mine, Method reference) {
        this.state = state;
        this.mine = mine;
        this.reference = reference;
        begin();
    }

    private void begin() {
        x = new SentRound();
        due = new Reference();
        calls = 0;
        if (state >= 1) houses(state == 1 ? 1 : state == 2 ? 3 : 14);
        if (state == 2) ordinary();
        if (state == 3) full();
    }

    private void houses(int n) {
        for (int h = 0; h < n; h++) {
            x.house(h % 2);
            due.house(h % 2);
            calls++;
        }
    }

    private void pass(int n) {
        x.pass(n);
        due.pass(n);
        calls++;
    }

    private void reading(int h, int p, int on, int v) {
        x.reading(h, p, on, v);
        due.reading(h, p, on, v);
        calls++;
    }

    private void type(String text) {
        for (char c : text.toCharArray()) {
            x.type(c);
            due.type(c);
            calls++;
        }
    }

    private void sheet(int s, int type, int n) {
        x.sheet(s, type, n);
        due.sheet(s, type, n);
        for (int i = 0; i < n; i++) {
            x.put(s, type, i, i % 4);
            due.put(s, type, i, i % 4);
        }
        calls += n + 1;
    }

    private void ordinary() {
        pass(5);
        int[][] readings = {{0, 0, 0, 10}, {0, 0, 5, 13}, {1, 0, 2, 12}, {1, 0, 3, 14}, {2, 0, 1, 9}, {2, 0, 1, 11},
            {0, 1, 4, -20000}, {2, 1, 5, 20000}, {1, 3, 0, 1}};
        for (int[] r : readings) reading(r[0], r[1], r[2], r[3]);
        pass(15);
        x.takeBack(8);
        due.takeBack(8);
        type("3*4/2+1");
        sheet(0, 0, 2);
        sheet(1, 1, 3);
        sheet(2, 2, 8);
        calls++;
    }

    /** 14 houses, 150 readings, 60 bytes, the last day and a sheet of 60 items. */
    private void full() {
        for (int i = 0; i < 3; i++) pass(100);
        pass(99);
        for (int r = 0; r < 28; r++) reading(r % 14, 0, r * 14, r * r * 20 - 5000);
        for (int r = 28; r < 150; r++) reading((r - 28) / 16, 1 + (r - 28) / 8 % 2, r, r - 75);
        type("1+2+3+4+5+6+7+8+9+10+11+12+13+14+15+16+17+18+19+20+21+22*100");
        sheet(0, 2, 60);
    }

    private void next(int... arguments) throws ReflectiveOperationException {
        if (calls >= CALLS_OF_AN_OBJECT) begin();
        Object[] given = new Object[arguments.length];
        for (int i = 0; i < given.length; i++) given[i] = arguments[i];
        Object got;
        try {
            got = mine.invoke(x, given);
        } catch (InvocationTargetException e) {
            got = e.getCause();
        }
        Object want = reference.invoke(due, given);
        calls++;
        asked++;
        if (!want.equals(got)) {
            wrong++;
            System.out.println("state " + state + ": " + mine.getName() + Arrays.toString(arguments) + " answered " + got
                + ", due is " + want);
        }
    }

    private void all(int[][] values, int[] chosen, int at) throws ReflectiveOperationException {
        if (at == values.length) {
            next(chosen.clone());
            return;
        }
        for (int v : values[at]) {
            chosen[at] = v;
            all(values, chosen, at + 1);
        }
    }

    public static void main(String[] args) throws ReflectiveOperationException {
        for (Method mine : SentRound.class.getDeclaredMethods()) {
            if (!ARGUMENTS.containsKey(mine.getName()) || !java.lang.reflect.Modifier.isPublic(mine.getModifiers())) continue;
            Method reference = Reference.class.getDeclaredMethod(mine.getName(), mine.getParameterTypes());
            int[][] values = ARGUMENTS.get(mine.getName());
            for (int state = 0; state < 4; state++) {
                new GridTest(state, mine, reference).all(values, new int[values.length], 0);
            }
        }
        System.out.println(asked + " answers asked at the edges, " + wrong + " wrong");
        if (wrong != 0) System.exit(1);
    }
}
