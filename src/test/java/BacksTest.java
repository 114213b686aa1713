/** Promises 9 and 19: wishes back, and what a tick does with them. */
public final class BacksTest {
    private static final Check check = new Check();

    public static void main(String[] args) {
        oneOfTwoLines();
        noneButBusy();
        theLineWhereItEnded();
        eightAtMost();
        inTheOrderInWhichTheyCame();
        newOnesWait();
        comesInTheSameTick();
        noRoomForCalls();
        freedInBetween();
        check.end();
    }

    private static void oneOfTwoLines() {
        WishLine x = Check.withLines(4);
        x.wish(0, Kind.BACK, 0, 3, 0);
        x.wish(1, Kind.BACK, 0, 3, 0);
        x.dial(2, 3);
        x.dial(0, 2);
        x.dial(0, 2);
        check.dueBacks(x, 0, 2);
        x.dial(0, 3);
        check.dueBacks(x, 0, 2, 0, 3);
        x.dial(1, 2);
        check.dueBacks(x, 0, 2, 0, 3, 1, 2);
        x.dial(0, 2);
        check.dueBacks(x, 0, 2, 0, 3, 1, 2);
        x.on(0, false);
        WishLine y = Check.withLines(3);
        y.wish(0, Kind.BACK, 0, 3 - 1, 0);
        y.on(0, false);
        y.dial(1, 2);
        y.dial(0, 1);
        check.dueBacks(y);
    }

    private static void noneButBusy() {
        WishLine x = Check.withLines(3);
        x.wish(0, Kind.BACK, 0, 0, 0);
        x.wish(1, Kind.SHUT, 0, 0, 1);
        x.dial(0, 1);
        check.due("call(0, 2)", x.call(0, 2), 1);
        check.dueBacks(x);
        x.wish(2, Kind.ONWARD, 0, 2, 0);
        x.dial(0, 2);
        check.due("call(1, 2)", x.call(1, 2), 2);
        check.dueBacks(x);
    }

    private static void theLineWhereItEnded() {
        WishLine x = Check.withLines(4);
        x.wish(0, Kind.BACK, 0, 0, 0);
        x.wish(1, Kind.ONWARD, 0, 2, 0);
        x.dial(2, 3);
        x.dial(0, 1);
        check.dueBacks(x, 0, 2);
    }

    private static void eightAtMost() {
        WishLine x = Check.withLines(8);
        for (int i = 0; i < 8; i++) {
            x.wish(i, Kind.BACK, 0, 0, 0);
        }
        x.dial(6, 7);
        for (int i = 0; i < 6; i++) {
            x.dial(i, 7);
        }
        x.dial(0, 6);
        x.dial(1, 6);
        check.dueBacks(x, 0, 7, 1, 7, 2, 7, 3, 7, 4, 7, 5, 7, 0, 6, 1, 6);
        x.dial(2, 6);
        check.dueBacks(x, 0, 7, 1, 7, 2, 7, 3, 7, 4, 7, 5, 7, 0, 6, 1, 6);
        x.down(6);
        x.tick();
        check.dueBacks(x, 1, 7, 2, 7, 3, 7, 4, 7, 5, 7, 0, 6);
        check.due("lineTold(7, 0)", x.lineTold(7, 0), x.lineTold(0, 0));
        check.due("lineTold(6, 0)", x.lineTold(6, 0), x.lineTold(1, 0));
    }

    private static void inTheOrderInWhichTheyCame() {
        WishLine x = Check.withLines(4);
        x.wish(1, Kind.BACK, 0, 0, 0);
        x.wish(2, Kind.BACK, 0, 0, 0);
        x.dial(0, 3);
        x.dial(2, 0);
        x.dial(1, 0);
        check.dueBacks(x, 2, 0, 1, 0);
        x.down(0);
        x.tick();
        check.dueBacks(x, 1, 0);
        check.due("call(3, 0)", x.call(3, 0), 2);
        check.due("count(2)", x.count(2), 4);
    }

    private static void newOnesWait() {
        WishLine x = Check.withLines(3);
        x.wish(0, Kind.BACK, 0, 0, 0);
        x.wish(1, Kind.ONWARD, 0, 2, 0);
        x.dial(0, 0);
        check.dueBacks(x, 0, 0);
        for (int i = 1; i <= 5; i++) {
            x.tick();
            check.due("count(2)", x.count(2), i + 1);
            check.dueBacks(x, 0, 0);
        }
    }

    /** A call that ends in (b) leaves a wish back that (c) of the same tick looks at. */
    private static void comesInTheSameTick() {
        WishLine x = Check.withLines(4);
        x.wish(0, Kind.BACK, 0, 0, 0);
        x.wish(1, Kind.ONWARD, 0, 2, 3);
        x.dial(0, 1);
        x.dial(2, 3);
        x.wish(3, Kind.ONWARD, 0, 1, 3);
        x.tick();
        check.due("call(0, 2)", x.call(0, 2), 3);
        check.dueBacks(x, 0, 2);
        WishLine y = Check.withLines(4);
        y.wish(0, Kind.BACK, 0, 0, 0);
        y.wish(1, Kind.ONWARD, 0, 2, 3);
        y.wish(3, Kind.ONWARD, 0, 3, 3);
        y.dial(0, 1);
        y.dial(2, 3);
        y.tick();
        check.due("call(0, 2)", y.call(0, 2), 3);
        check.due("call(1, 2)", y.call(1, 2), 2);
        check.due("count(2)", y.count(2), 3);
        check.due("call(2, 0)", y.call(2, 0), 0);
        check.due("call(2, 4)", y.call(2, 4), 4);
        check.due("call(2, 6)", y.call(2, 6), 0);
        check.dueBacks(y);
    }

    private static void noRoomForCalls() {
        WishLine x = Check.withLines(1);
        x.wish(0, Kind.BACK, 0, 0, 0);
        for (int i = 0; i < 60; i++) {
            x.dial(0, 0);
        }
        check.dueBacks(x, 0, 0);
        check.done(x, "tick()", x.tick(), 1);
        check.due("count(2)", x.count(2), 60);
        check.dueBacks(x, 0, 0);
    }

    /** Behind each wish back a knocking call may get the line, so that the next wish back finds it busy. */
    private static void freedInBetween() {
        WishLine x = Check.withLines(5);
        x.wish(0, Kind.BACK, 0, 0, 0);
        x.wish(1, Kind.WAITING, 0, 0, 0);
        x.wish(1, Kind.ONWARD, 0, 4, 3);
        x.dial(2, 1);
        x.dial(3, 1);
        check.due("call(1, 1)", x.call(1, 1), 2);
        x.dial(0, 1);
        check.dueBacks(x, 0, 1);
        x.tick();
        check.due("call(0, 4)", x.call(0, 4), 16);
        check.due("call(1, 3)", x.call(1, 3), 2);
        check.due("call(1, 2)", x.call(1, 2), 3);
        check.due("call(3, 0)", x.call(3, 0), 0);
        check.due("call(3, 4)", x.call(3, 4), 2);
        check.dueBacks(x);
    }
}
