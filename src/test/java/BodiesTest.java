/** Promises 25 and 26: the bodies of the acts, and the trace. */
public final class BodiesTest {
    private static final Check check = new Check();
    private static final int RANK = 3;
    private static final int TARGET = 2;

    // By kinds 0 to 7 and acts 0 to 3: the trace that is due.
    private static final int[][][] TRACES = {
        {{10}, {11, 10}, {12}, {13, 11, 10, 12}},
        {{10}, {20, 11, 10}, {12}, {13, 20, 11, 10, 12}},
        {{30, 10}, {11, 30, 10}, {12}, {31, 13, 11, 30, 10, 12}},
        {{40, 30, 10, 12}, {41, 11, 40, 30, 10, 12}, {12}, {31, 13, 41, 11, 40, 30, 10, 12, 12}},
        {{10}, {11, 10}, {12}, {50, 12, 13, 11, 10, 12}},
        {{10}, {11, 10}, {60, 12}, {13, 11, 10, 60, 12}},
        {{10}, {70, 11, 10, 10}, {12}, {13, 70, 11, 10, 10, 12}},
        {{10}, {11, 10}, {80, 12}, {13, 11, 10, 80, 12}},
    };

    public static void main(String[] args) {
        allBodies();
        refused();
        numbersWrap();
        check.end();
    }

    private static int due(int kind, int n, int act, int x) {
        int r = RANK;
        int t = TARGET;
        int pay = kind == 5 ? x - r + t : kind == 7 ? (x - r) * 2 : x - r;
        switch (act) {
            case 0:
                return kind == 2 ? (x + n) * 3 : kind == 3 ? (x + n) * 3 - (x - r) : x + n;
            case 1:
                if (kind == 1) {
                    return (x + n) * 2 + t;
                }
                if (kind == 3) {
                    return due(kind, n, 0, x - t) * 2;
                }
                return kind == 6 ? (x + n) * 2 ^ (t + n) : due(kind, n, 0, x) * 2;
            case 2:
                return pay;
            default:
                if (kind == 2 || kind == 3) {
                    return due(kind, n, 1, x + 1) ^ due(kind, n, 2, x + 1);
                }
                int plain = due(kind, n, 1, x) ^ pay;
                return kind == 4 ? pay - plain : plain;
        }
    }

    private static void allBodies() {
        WishLine x = Check.withLines(4);
        int[] numbers = {0, 1, -1, 5, 1000, -77, Integer.MAX_VALUE, Integer.MIN_VALUE, 1 << 30};
        for (int i = 0; i < 16; i++) {
            x.wish(1, i % 8, RANK, TARGET, 1);
        }
        for (int wish = 0; wish < 16; wish++) {
            for (int act = 0; act < 4; act++) {
                int[] trace = TRACES[wish % 8][act];
                for (int number : numbers) {
                    String call = "act(" + wish + ", " + act + ", " + number + ")";
                    check.done(x, call, x.act(wish, act, number), due(wish % 8, wish, act, number));
                    check.due(call + " then count(7)", x.count(7), trace.length);
                    for (int i = 0; i < trace.length; i++) {
                        check.due(call + " then trace(" + i + ")", x.trace(i), trace[i]);
                    }
                    check.due(call + " then trace(behind)", x.trace(trace.length), -1);
                    check.due(call + " then trace(-1)", x.trace(-1), -1);
                }
            }
        }
        check.due("trace(50)", x.trace(50), -1);
    }

    private static void refused() {
        WishLine x = Check.withLines(1);
        check.refused(x, "act(0, 0, 0) of none", x.act(0, 0, 0), 1);
        x.wish(0, 0, 0, 0, 0);
        check.done(x, "act(0, 3, 7)", x.act(0, 3, 7), 14 ^ 7);
        check.refused(x, "act(0, 4, 0)", x.act(0, 4, 0), 1);
        check.refused(x, "act(0, -1, 0)", x.act(0, -1, 0), 1);
        check.refused(x, "act(1, 0, 0)", x.act(1, 0, 0), 1);
        check.refused(x, "act(-1, 0, 0)", x.act(-1, 0, 0), 1);
        check.due("count(7)", x.count(7), 4);
        check.due("trace(0)", x.trace(0), 13);
    }

    private static void numbersWrap() {
        WishLine x = Check.withLines(1);
        x.wish(0, 0, 9, 0, 0);
        x.wish(0, 2, 0, 0, 0);
        check.done(x, "act(0, 0, -1)", x.act(0, 0, -1), -1);
        check.done(x, "act(0, 2, min)", x.act(0, 2, Integer.MIN_VALUE), Integer.MAX_VALUE - 8);
        check.done(x, "act(1, 0, max)", x.act(1, 0, Integer.MAX_VALUE), Integer.MIN_VALUE);
        x.on(1, false);
        check.done(x, "an act of one that is not on", x.act(1, 0, 1), 6);
        x.rank(0, 2);
        check.done(x, "act(0, 2, 5) by its rank now", x.act(0, 2, 5), 3);
    }
}
