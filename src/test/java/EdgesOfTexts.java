/** Edges of doubts as texts: promises 29 to 33, and the terms that they use. */
final class EdgesOfTexts extends EdgeCase {
    static void all() {
        typing();
        wiping();
        numbers();
        signs();
        faultsInOrder();
        sides();
        squares();
        leastDoubt();
        reckoned();
        claimed();
    }

    private static String times(String text, int n) {
        StringBuilder all = new StringBuilder();
        for (int i = 0; i < n; i++) all.append(text);
        return all.toString();
    }

    private static void fault(String text, int want) {
        SentRound x = many(1);
        typed(x, text);
        due("fault() of '" + text + "'", x.fault(), want);
        if (want >= 0) due("reckon() of '" + text + "'", x.reckon(), -3);
        else if (x.reckon() < 1) wrong("reckon() of '" + text + "' answered " + x.reckon());
    }

    private static void reckon(String text, int want) {
        SentRound x = new SentRound();
        typed(x, text);
        due("reckon() of '" + text + "'", x.reckon(), want);
    }

    private static void typing() {
        edge(TERMS, "DOUBTS: a text of up to 60 bytes", () -> {
            SentRound x = new SentRound();
            typed(x, times("1", 59));
            due("type, the 60th", x.type('1'), 60);
            due("type, the 61st", x.type('1'), -4);
            due("count(9)", x.count(9), 60);
            due("fault(), the fourth figure", x.fault(), 3);
            fault(times("1+", 29) + "12", -1);
            fault(times("1+", 30), 60);
            fault(times("9*0+", 15), 60);
            reckon(times("9*1+", 14) + "9*11", 105);
        });
        edge(29, "A byte (0 to 255) comes behind DOUBTS: how many.", () -> {
            SentRound x = new SentRound();
            due("type(-1)", x.type(-1), -2);
            due("type(256)", x.type(256), -2);
            due("type(0), the least", x.type(0), 1);
            due("type(255), the most", x.type(255), 2);
            due("count(9)", x.count(9), 2);
            SentRound y = new SentRound();
            typed(y, "7");
            due("type behind", y.type('5'), 2);
            due("reckon()", y.reckon(), 75);
        });
        edge(29, "BAD", () -> {
            SentRound x = new SentRound();
            for (int b : row(-1, 256, 256 + '1')) due("type(" + b + ")", x.type(b), -2);
            for (int b : WILD) due("type(" + b + ")", x.type(b), -2);
            due("count(9)", x.count(9), 0);
        });
        edge(29, "FULL.", () -> {
            SentRound x = new SentRound();
            typed(x, times("0", 60));
            due("type(48)", x.type('0'), -4);
            due("type(256): BAD comes first", x.type(256), -2);
            due("type(-1): BAD comes first", x.type(-1), -2);
            due("count(9)", x.count(9), 60);
            x.wipe();
            due("type(48), behind wipe()", x.type('0'), 1);
        });
    }

    private static void wiping() {
        edge(30, "DOUBTS are empty: how many bytes they had.", () -> {
            SentRound x = new SentRound();
            due("wipe(), empty", x.wipe(), 0);
            typed(x, times("1", 60));
            due("wipe(), full", x.wipe(), 60);
            due("wipe(), empty again", x.wipe(), 0);
            due("count(9)", x.count(9), 0);
            due("fault()", x.fault(), 0);
            typed(x, "8");
            due("reckon(): nothing is left of what was", x.reckon(), 8);
        });
    }

    private static void numbers() {
        edge(TERMS, "a number (one to three figures)", () -> {
            fault("0", -1);
            fault("9", -1);
            fault("99", -1);
            fault("999", -1);
            fault("9999", 3);
            fault("000", -1);
            fault("0000", 3);
            fault("1*999", -1);
            fault("1*0001", 5);
            fault("1/001", -1);
            fault("1/0011", 5);
            fault("1+0001", 5);
            reckon("007", 7);
            reckon("010", 10);
        });
        edge(TERMS, "(one to three figures, not 0 behind /)", () -> {
            fault("5/1", -1);
            fault("5/0", 2);
            fault("5/00", 2);
            fault("5/000", 2);
            fault("5/01", -1);
            fault("5*0", -1);
            fault("0*0", -1);
            fault("5+0", -1);
            fault("0/5", -1);
            fault("0/0", 2);
            fault("5/2/0", 4);
            fault("5/0/0", 2);
        });
        edge(TERMS, "or of the first figure of a 0 behind /", () -> {
            fault("1+12/0", 5);
            fault("1+12/000+", 5);
            fault("1/0x", 2);
            fault("1/0*", 2);
            fault("100*100*10/0", 11);
        });
    }

    private static void signs() {
        edge(TERMS, "parts with + between them", () -> {
            fault("1+1", -1);
            fault("+1", 0);
            fault("1+", 2);
            fault("1++1", 2);
            fault("1+*1", 2);
            fault("1*+1", 2);
        });
        edge(TERMS, "then, any times, * or / and a number", () -> {
            fault("1*2/3*4/5", -1);
            fault("1" + times("*1", 29), -1);
            fault("1" + times("/1", 29), -1);
            fault("1*", 2);
            fault("1/", 2);
            fault("1**2", 2);
            fault("1/*2", 2);
            fault("1//2", 2);
            fault("*1", 0);
            fault("/1", 0);
        });
        edge(TERMS, "The FAULT is the place of the first byte with which it cannot go on", () -> {
            fault("x", 0);
            fault("1x", 1);
            fault("1 +1", 1);
            fault("1-1", 1);
            fault("1.5", 1);
            fault("1,5", 1);
            fault("1:5", 1);
            fault("/", 0);
            fault(":", 0);
            fault("1)", 1);
            fault("12x3y", 2);
            for (int b = 0; b < 256; b++) {
                boolean figure = b >= '0' && b <= '9';
                SentRound x = new SentRound();
                x.type(b);
                due("fault() of byte " + b, x.fault(), figure ? -1 : 0);
                SentRound y = new SentRound();
                typed(y, "1");
                y.type(b);
                due("fault() of 1 and byte " + b, y.fault(), figure ? -1 : b == '+' || b == '*' || b == '/' ? 2 : 1);
            }
        });
        edge(TERMS, "(of an empty text 0)", () -> fault("", 0));
    }

    private static void faultsInOrder() {
        edge(31, "The FAULT; NONE.", () -> {
            fault("7", -1);
            fault("1/0+x", 2);
            fault("x+1/0", 0);
            fault("999*999x", 4);
            fault("999*9999", 4);
            fault("1x/0", 1);
            fault("5+999*999+1/0", 6);
            fault(times("1+", 29) + "1x", 59);
            fault(times("1+", 29) + "1/", 60);
        });
    }

    private static void sides() {
        edge(TERMS, "or of a number with which above or below (in lowest terms) would be above 100000.", () -> {
            fault("100*100*10", -1);
            fault("125*800", -1);
            fault("11*9091", 6);
            fault("100*100*11", 8);
            fault("317*316", 4); // 100172
            fault("367*272", -1); // 99824
            fault("1/100/100/10", -1);
            fault("1/100/100/11", 10);
            fault("1/317/316", 6);
            fault("11*13*700", 6); // 100100
            fault("3*3*41*271", -1); // 99999
            fault("1/9/41/271", -1);
            // 100001 to 100004 have factors above 999, so this is the first that can be
            fault("885*113", 4); // 100005
            fault("1/885/113", 6);
            fault("7*11*13*100", 8);
            fault("7*11*13/100*100", -1); // 1001/100 times 100
            fault("1/7/11/13/100", 10); // 100100 below
            fault("100*100*10*1", -1);
            fault("100*100*10*2", 11);
            fault("100*100*10/1", -1);
            fault("1/100/100/10/2", 13);
        });
        edge(TERMS, "each is a FRACTION, reckoned from the left in lowest terms.", () -> {
            fault("999/3/3/3*999", -1);
            fault("999*999/999", 4);
            fault("999/999*999", -1);
            fault("0/999/999/999", -1);
            fault("0*999*999*999", -1);
            fault("1/999*999/999*999", -1);
            fault("6/4*3", -1);
            reckon("6/4*2", 3);
            reckon("7/2*2/7", 1);
            reckon("100*100*10/100/100/10", 1);
            reckon("9/3*5", 15);
        });
    }

    private static void squares() {
        edge(TERMS, "SQUARE: of all parts the square times 10000, rounded up each, together.", () -> {
            // nine ninths of 10000 are 9999 and a bit, rounded up each 10008
            reckon(times("1/3+", 8) + "1/3", 2);
            reckon("1/2+1/2+1/2+1/2", 1);
            reckon("3+4", 5);
            reckon("3*3", 9);
            reckon("4/5+3/5", 1);
            reckon("0+0", 1);
            reckon("1+1/999", 2);
            reckon("1+0", 1);
            reckon("1+0/7", 1);
            // 10000 times the square of 1 by 100000 is rounded up to 1
            reckon("1+1/100/100/10", 2);
        });
    }

    private static void leastDoubt() {
        edge(TERMS, "the least whole number, 1 or more, the square of which times 10000 is not below that", () -> {
            reckon("0", 1);
            reckon("1/999", 1);
            reckon("1", 1);
            reckon("2", 2);
            reckon("3/2", 2);
            reckon("2+1/999", 3);
            reckon("5+12", 13);
            reckon("5+12+1/100", 14);
            reckon("998", 998);
            reckon("998+1", 999);
            reckon("999", 999);
        });
        edge(TERMS, "1000, if it would be more.", () -> {
            reckon("999+1/999", 1000);
            reckon("100*10", 1000);
            reckon("100*10+1", 1000);
            reckon("999+999", 1000);
            reckon("100*100*10", 1000);
            reckon(times("100*100*10+", 4) + "100*100*10", 1000);
            reckon("600+800", 1000);
            reckon("600+800+1", 1000);
        });
    }

    private static void reckoned() {
        edge(32, "THE DOUBT by the text.", () -> {
            SentRound x = many(1);
            typed(x, "30+40");
            due("reckon()", x.reckon(), 50);
            due("reckon() once more", x.reckon(), 50);
            due("doubt(0, 1): it changes no house", x.doubt(0, 1), 10);
            due("count(9): nor the text", x.count(9), 5);
        });
        edge(32, "NOT: a FAULT.", () -> {
            reckon("", -3);
            reckon("1+", -3);
            reckon("1/0", -3);
            reckon("x", -3);
            reckon("1000", -3);
            reckon("999*999", -3);
            SentRound x = new SentRound();
            typed(x, "5*");
            due("reckon()", x.reckon(), -3);
            x.type('2');
            due("reckon(), the fault is mended", x.reckon(), 10);
        });
    }

    private static void claimed() {
        edge(33, "A HOUSE has THE DOUBT by the text: what it had.", () -> {
            SentRound x = many(14);
            typed(x, "999+999");
            due("claim(13)", x.claim(13), 10);
            due("claim(13) once more", x.claim(13), 1000);
            due("doubt(12, 5), another house", x.doubt(12, 5), 10);
            typed(x, "0");
            due("claim(13), to the least", x.claim(13), 1000);
            due("doubt(13, 5)", x.doubt(13, 5), 1);
            due("count(9): the text stays", x.count(9), 1);
        });
        edge(33, "BAD", () -> {
            SentRound x = many(2);
            for (int h : row(-1, 2)) due("claim(" + h + "), a fault: BAD comes first", x.claim(h), -2);
            typed(x, "5");
            for (int h : row(-1, 2)) due("claim(" + h + ")", x.claim(h), -2);
            for (int h : WILD) due("claim(" + h + ")", x.claim(h), -2);
            due("claim(0) without houses", new SentRound().claim(0), -2);
        });
        edge(33, "NOT: a FAULT.", () -> {
            SentRound x = many(1);
            due("claim(0), empty", x.claim(0), -3);
            typed(x, "5/0");
            due("claim(0)", x.claim(0), -3);
            due("doubt(0, 1) is as it was", x.doubt(0, 1), 10);
        });
    }
}
