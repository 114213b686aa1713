/** Promises 6 to 9 and 13 to 18: how calls go, who pays, whom they tell. */
public final class CallsTest {
    private static final Check check = new Check();

    public static void main(String[] args) {
        plainCall();
        refusedCalls();
        roomForCalls();
        selfCalls();
        shutsByHours();
        shutsSentOn();
        hiddenShutsNoOne();
        onwardsAndRounds();
        onwardIfBusy();
        onwardAfterTicks();
        orderDecides();
        waiting();
        waitingOnlyOnce();
        knockerGetsItsTurn();
        sharedLines();
        sharedLineIsFreedByTake();
        pieces();
        manyActs();
        telling();
        callsBackAreDialledIn();
        likeRanksAfterTicks();
        theLastTick();
        check.end();
    }

    private static void plainCall() {
        WishLine x = Check.withLines(2);
        check.done(x, "dial(0, 1)", x.dial(0, 1), 0);
        check.dueCall(x, 0, 0, 0, 0, 1, 2, -1, 0, 0, -1);
        check.due("lineTold(0, 0)", x.lineTold(0, 0), 0);
        check.due("lineTold(1, 0)", x.lineTold(1, 0), 0);
        check.due("lineTold(0, 3)", x.lineTold(0, 3), 0);
        check.due("lineTold(1, 3)", x.lineTold(1, 3), 1);
        check.refused(x, "down(1) of a line that rings", x.down(1), 3);
        check.refused(x, "take(0) of the caller", x.take(0), 3);
        check.done(x, "tick()", x.tick(), 1);
        check.dueCall(x, 0, 0, 0, 0, 1, 2, -1, 1, 0);
        check.done(x, "take(1)", x.take(1), 0);
        check.dueCall(x, 0, 0, 1, 0, 1, 0, 1, 1, 0);
        check.due("lineTold(1, 3)", x.lineTold(1, 3), 0);
        check.due("lineTold(1, 0)", x.lineTold(1, 0), 0);
        check.due("count(5)", x.count(5), 1);
        x.tick();
        x.tick();
        check.due("lineTold(0, 2)", x.lineTold(0, 2), 2);
        check.due("lineTold(1, 2)", x.lineTold(1, 2), 0);
        check.done(x, "down(1)", x.down(1), 0);
        check.dueCall(x, 0, 0, 3, 4, 1, 0, -1, 1, 0);
        check.due("lineTold(0, 0)", x.lineTold(0, 0), -1);
        check.due("lineTold(1, 0)", x.lineTold(1, 0), -1);
        check.due("count(5)", x.count(5), 0);
        x.tick();
        check.due("lineTold(0, 2)", x.lineTold(0, 2), 2);
        check.due("call(0, -1)", x.call(0, -1), -1);
        check.due("call(1, 0)", x.call(1, 0), -1);
        check.due("call(-1, 0)", x.call(-1, 0), -1);
    }

    private static void refusedCalls() {
        WishLine x = Check.withLines(3);
        check.refused(x, "dial(3, 0)", x.dial(3, 0), 1);
        check.refused(x, "dial(-1, 0)", x.dial(-1, 0), 1);
        check.refused(x, "dial(0, 3)", x.dial(0, 3), 1);
        check.refused(x, "dial(0, -1)", x.dial(0, -1), 1);
        check.refused(x, "take(3)", x.take(3), 1);
        check.refused(x, "take(-1)", x.take(-1), 1);
        check.refused(x, "down(3)", x.down(3), 1);
        check.refused(x, "down(-1)", x.down(-1), 1);
        check.refused(x, "take(0)", x.take(0), 3);
        check.refused(x, "down(0)", x.down(0), 3);
        x.dial(0, 1);
        check.refused(x, "dial of a caller", x.dial(0, 2), 3);
        check.refused(x, "dial of a line that rings", x.dial(1, 2), 3);
        check.refused(x, "dial of a caller to none", x.dial(0, 3), 1);
        check.due("count(2)", x.count(2), 1);
        x.down(0);
        check.dueCall(x, 0, 0, 3, 4, 1, 0, -1, 0, 0);
        check.due("lineTold(1, 0) behind down of the caller", x.lineTold(1, 0), -1);
    }

    private static void roomForCalls() {
        WishLine x = Check.withLines(3);
        for (int i = 0; i < 60; i++) {
            check.due("dial(0, 0)", x.dial(0, 0), i);
        }
        check.refused(x, "the 61st dial()", x.dial(0, 1), 2);
        check.refused(x, "the 61st dial(), to none", x.dial(0, 9), 1);
        check.due("count(2)", x.count(2), 60);
        WishLine y = Check.withLines(3);
        for (int i = 0; i < 59; i++) {
            y.dial(0, 0);
        }
        y.dial(0, 1);
        check.refused(y, "the 61st dial() of a line that is not free", y.dial(0, 1), 2);
    }

    private static void selfCalls() {
        WishLine x = Check.withLines(2);
        check.done(x, "dial(0, 0)", x.dial(0, 0), 0);
        check.dueCall(x, 0, 0, 3, 3, 1, 0, -1, 0, 0);
        check.dueRow(x, 0, 0);
        check.duePieces(x, 0, 0);
        x.wish(0, Kind.ONWARD, 5, 1, 1);
        x.dial(0, 0);
        check.dueCall(x, 1, 0, 0, 0, 2, 2, -1, 0, 1);
        check.dueRow(x, 1, 0, 1);
        check.duePieces(x, 1, 0, 0);
        x.down(0);
        x.wish(0, Kind.SHUT, 4, 0, 1);
        x.dial(0, 0);
        check.dueCall(x, 2, 0, 3, 1, 1, 0, -1, 0, 1);
        x.wish(1, Kind.ONWARD, 0, 0, 0);
        x.on(1, false);
        x.dial(0, 0);
        check.dueCall(x, 3, 0, 3, 2, 2, 0, -1, 0, 2);
        x.wish(0, Kind.WAITING, 0, 0, 0);
        x.on(0, false);
        x.dial(0, 0);
        check.dueCall(x, 4, 0, 3, 3, 1, 0, -1, 0, 0);
    }

    private static void shutsByHours() {
        for (int number = 0; number < 4; number++) {
            WishLine x = Check.withLines(3);
            x.wish(1, Kind.SHUT, 0, 0, number);
            for (int tick = 0; tick < 26; tick++) {
                int half = tick % 24 < 12 ? 1 : 2;
                int call = x.dial(0, 1);
                int want = (number & half) != 0 ? 1 : 0;
                check.due("shut " + number + " at " + tick, x.call(call, 2), want);
                x.down(0);
                int other = x.dial(2, 1);
                check.due("shut " + number + " of another line", x.call(other, 2), 0);
                x.down(2);
                x.tick();
            }
        }
    }

    private static void shutsSentOn() {
        for (int number = 0; number < 32; number++) {
            WishLine x = Check.withLines(3);
            x.wish(1, Kind.ONWARD, 0, 2, 0);
            x.wish(2, Kind.SHUT, 0, 1, number);
            int sent = x.dial(0, 1);
            check.due("sent on, shut " + number, x.call(sent, 2), (number & 5) == 5 ? 1 : 0);
            x.down(0);
            int own = x.dial(1, 2);
            check.due("dialled, shut " + number, x.call(own, 2), (number & 1) == 1 ? 1 : 0);
        }
    }

    private static void hiddenShutsNoOne() {
        WishLine x = Check.withLines(2);
        x.wish(1, Kind.HIDDEN, 0, 0, 7);
        x.dial(0, 1);
        check.dueCall(x, 0, 0, 0, 0, 1, 2, -1, 0, 0);
    }

    private static void onwardsAndRounds() {
        WishLine x = Check.withLines(8);
        for (int i = 0; i < 8; i++) {
            x.wish(i, Kind.ONWARD, 0, (i + 1) % 8, 0);
        }
        x.dial(0, 1);
        check.dueCall(x, 0, 0, 3, 2, 7, 0, -1, 0, 7);
        check.dueRow(x, 0, 1, 2, 3, 4, 5, 6, 7);
        check.duePieces(x, 0, 0, 1, 2, 3, 4, 5, 6);
        check.dueActed(x, 0, 1, 2, 3, 4, 5, 6, 7);
        x.dial(0, 0);
        check.dueCall(x, 1, 0, 3, 2, 8, 0, -1, 0, 8);
        check.dueRow(x, 1, 0, 1, 2, 3, 4, 5, 6, 7);
        x.wish(3, Kind.ONWARD, 0, 3, 0);
        x.on(3, false);
        x.dial(5, 3);
        check.dueCall(x, 2, 5, 3, 2, 1, 0, -1, 0, 1);
        check.dueActed(x, 2, 8);
        check.due("count(4)", x.count(4), 0);
    }

    private static void onwardIfBusy() {
        WishLine x = Check.withLines(4);
        x.wish(1, Kind.ONWARD, 0, 2, 1);
        x.dial(0, 1);
        check.dueRow(x, 0, 1);
        check.dueActed(x, 0);
        x.dial(3, 1);
        check.dueRow(x, 1, 1, 2);
        check.dueActed(x, 1, 0);
        check.dueCall(x, 1, 3, 0, 0, 2, 4, -1, 0, 1);
    }

    private static void onwardAfterTicks() {
        WishLine x = Check.withLines(5);
        x.wish(1, Kind.ONWARD, 5, 2, 4);
        x.wish(1, Kind.ONWARD, 4, 3, 4);
        x.wish(1, Kind.ONWARD, 0, 4, 5);
        x.wish(3, Kind.ONWARD, 0, 4, 3);
        x.dial(0, 1);
        x.tick();
        check.dueCall(x, 0, 0, 0, 0, 1, 2, -1, 1, 0);
        x.tick();
        check.dueCall(x, 0, 0, 0, 0, 2, 8, -1, 0, 1);
        check.due("lineTold(1, 0)", x.lineTold(1, 0), -1);
        check.dueActed(x, 0, 1);
        check.duePieces(x, 0, 0, 1);
        x.tick();
        check.dueCall(x, 0, 0, 0, 0, 3, 16, -1, 0, 2);
        check.dueRow(x, 0, 1, 3, 4);
        check.duePieces(x, 0, 0, 1, 3);
        x.wish(4, Kind.ONWARD, 0, 0, 3);
        x.tick();
        check.dueCall(x, 0, 0, 3, 2, 3, 0, -1, 1, 3);
        check.due("lineTold(0, 0)", x.lineTold(0, 0), -1);
        check.due("lineTold(4, 0)", x.lineTold(4, 0), -1);
        int call = x.dial(0, 2);
        x.wish(2, Kind.ONWARD, 0, 4, 11);
        for (int i = 1; i <= 8; i++) {
            x.tick();
            check.due("rung", x.call(call, 6), i);
            check.due("rings", x.call(call, 4), 4);
        }
        x.tick();
        check.due("behind nine ticks", x.call(call, 4), 16);
        x.down(0);
        x.wish(2, Kind.ONWARD, 0, 3, 3);
        x.on(6, false);
        int late = x.dial(0, 2);
        x.tick();
        x.on(6, true);
        x.tick();
        check.due("an onward whose tick is over", x.call(late, 4), 4);
    }

    private static void orderDecides() {
        WishLine x = Check.withLines(4);
        x.wish(1, Kind.ONWARD, 3, 2, 0);
        x.wish(1, Kind.SHUT, 3, 0, 3);
        x.wish(1, Kind.WAITING, 2, 0, 0);
        x.dial(0, 1);
        check.dueActed(x, 0, 0);
        x.down(0);
        x.rank(1, 2);
        x.dial(0, 1);
        check.dueActed(x, 1, 1);
        check.dueCall(x, 1, 0, 3, 1);
        x.on(1, false);
        x.rank(0, 1);
        x.dial(0, 1);
        check.dueActed(x, 2, 0);
        x.take(2);
        x.on(0, false);
        x.dial(3, 1);
        check.dueCall(x, 3, 3, 0, 0, 1, 2, -1, 0, 0);
    }

    private static void waiting() {
        WishLine x = Check.withLines(4);
        x.wish(1, Kind.WAITING, 0, 0, 0);
        x.wish(1, Kind.ONWARD, 0, 3, 4);
        x.wish(1, Kind.SHARED, 0, 3, 0);
        x.on(2, false);
        x.dial(0, 1);
        check.dueActed(x, 0);
        x.take(1);
        x.on(2, true);
        x.dial(2, 1);
        check.dueCall(x, 1, 2, 2, 0, 1, 0, 1, 0, 1);
        check.dueActed(x, 1, 0);
        check.due("lineTold(1, 1)", x.lineTold(1, 1), 1);
        check.due("lineTold(1, 0)", x.lineTold(1, 0), 0);
        check.due("lineTold(2, 0)", x.lineTold(2, 0), 1);
        check.due("lineTold(1, 3)", x.lineTold(1, 3), 0);
        x.tick();
        check.dueCall(x, 1, 2, 2, 0, 1, 0, 1, 0, 1);
        x.down(0);
        check.dueCall(x, 1, 2, 0, 0, 1, 2, -1, 0, 1);
        check.due("lineTold(1, 1)", x.lineTold(1, 1), -1);
        check.due("lineTold(1, 0)", x.lineTold(1, 0), 1);
        check.due("lineTold(3, 0)", x.lineTold(3, 0), -1);
        x.tick();
        x.tick();
        check.dueCall(x, 1, 2, 0, 0, 2, 8, -1, 0, 2);
        check.dueActed(x, 1, 0, 1);
    }

    private static void waitingOnlyOnce() {
        WishLine x = Check.withLines(5);
        x.wish(1, Kind.WAITING, 0, 0, 0);
        x.wish(1, Kind.ONWARD, 1, 4, 1);
        x.dial(1, 0);
        x.dial(2, 1);
        check.dueCall(x, 1, 2, 2, 0, 1, 0, 1, 0, 1);
        x.dial(3, 1);
        check.dueCall(x, 2, 3, 0, 0, 2, 16, -1, 0, 1);
        check.dueActed(x, 2, 1);
        x.down(2);
        check.dueCall(x, 1, 2, 3, 4, 1, 0, -1, 0, 1);
        check.due("lineTold(1, 1)", x.lineTold(1, 1), -1);
        x.down(3);
        x.dial(3, 1);
        check.dueCall(x, 3, 3, 2, 0, 1, 0, 1, 0, 1);
    }

    /** A call that a tick lets ring is told as rung in that tick if its turn is still to come. */
    private static void knockerGetsItsTurn() {
        WishLine x = Check.withLines(5);
        x.wish(1, Kind.WAITING, 0, 0, 0);
        x.wish(1, Kind.ONWARD, 0, 2, 4);
        x.dial(0, 1);
        x.dial(3, 1);
        check.dueCall(x, 1, 3, 2);
        x.tick();
        x.tick();
        check.dueCall(x, 0, 0, 0, 0, 2, 4, -1, 0, 1);
        check.dueCall(x, 1, 3, 0, 0, 1, 2, -1, 1, 1);
        x.tick();
        check.dueCall(x, 1, 3, 3, 3, 2, 0, -1, 2, 2);
        WishLine y = Check.withLines(5);
        y.wish(1, Kind.WAITING, 0, 0, 0);
        y.wish(4, Kind.ONWARD, 0, 1, 1);
        y.wish(1, Kind.ONWARD, 0, 2, 4);
        y.dial(4, 0);
        y.down(4);
        y.dial(3, 4);
        y.dial(0, 1);
        y.wish(4, Kind.ONWARD, 0, 1, 3);
        y.tick();
        check.dueCall(y, 1, 3, 2, 0, 2, 0, 1, 1, 2);
        y.tick();
        check.dueCall(y, 2, 0, 0, 0, 2, 4, -1, 0, 1);
        check.dueCall(y, 1, 3, 0, 0, 2, 2, -1, 0, 2);
    }

    private static void sharedLines() {
        WishLine x = Check.withLines(6);
        x.wish(1, Kind.SHARED, 0, 2, 0);
        x.wish(1, Kind.SHARED, 0, 3, 0);
        x.wish(1, Kind.SHARED, 0, 0, 0);
        x.wish(1, Kind.SHARED, 0, 4, 0);
        x.wish(1, Kind.SHARED, 0, 1, 0);
        x.on(3, false);
        x.dial(3, 5);
        x.dial(0, 1);
        check.dueCall(x, 1, 0, 0, 0, 1, 6, -1, 0, 0);
        check.dueRow(x, 1, 1);
        check.due("lineTold(2, 3)", x.lineTold(2, 3), 1);
        check.due("lineTold(2, 0)", x.lineTold(2, 0), 1);
        check.refused(x, "down(2)", x.down(2), 3);
        x.wish(1, Kind.ONWARD, 0, 2, 3);
        x.tick();
        check.dueCall(x, 1, 0, 0, 0, 2, 4, -1, 0, 1);
        check.due("lineTold(1, 0)", x.lineTold(1, 0), -1);
        check.done(x, "take(2)", x.take(2), 1);
        check.dueCall(x, 1, 0, 1, 0, 2, 0, 2, 0, 1);
    }

    private static void sharedLineIsFreedByTake() {
        WishLine x = Check.withLines(4);
        x.wish(1, Kind.SHARED, 0, 2, 0);
        x.wish(2, Kind.WAITING, 0, 0, 0);
        x.dial(0, 1);
        x.dial(3, 2);
        check.dueCall(x, 1, 3, 2, 0, 1, 0, 2, 0, 1);
        check.done(x, "take(1)", x.take(1), 0);
        check.dueCall(x, 1, 3, 0, 0, 1, 4, -1, 0, 1);
        check.due("lineTold(2, 0)", x.lineTold(2, 0), 1);
        check.done(x, "take(2)", x.take(2), 1);
    }

    private static void pieces() {
        WishLine x = Check.withLines(4);
        x.wish(1, Kind.PAID, 0, 0, 0);
        x.wish(1, Kind.ONWARD, 0, 2, 0);
        x.wish(2, Kind.PAID, 0, 0, 0);
        x.wish(2, Kind.ONWARD, 0, 3, 0);
        x.dial(0, 1);
        check.duePieces(x, 0, 1, 1, 2);
        x.take(3);
        x.tick();
        x.tick();
        int[] want = {0, 4, 2, 0};
        for (int i = 0; i < 4; i++) {
            check.due("lineTold(" + i + ", 2)", x.lineTold(i, 2), want[i]);
        }
        x.down(0);
        x.on(0, false);
        x.dial(0, 1);
        check.duePieces(x, 1, 0, 1, 2);
        check.due("piece(-1, 0)", x.piece(-1, 0), -1);
        check.due("piece(2, 0)", x.piece(2, 0), -1);
        check.due("row(-1, 0)", x.row(-1, 0), -1);
        check.due("row(2, 0)", x.row(2, 0), -1);
        check.due("acted(-1, 0)", x.acted(-1, 0), -1);
        check.due("acted(2, 0)", x.acted(2, 0), -1);
    }

    /** Each of seven lines lets a call wait and sends it on, so more than ten wishes act. */
    private static void manyActs() {
        WishLine x = Check.withLines(8);
        for (int i = 1; i < 7; i++) {
            x.wish(i, Kind.WAITING, 0, 0, 0);
            x.wish(i, Kind.ONWARD, 0, i + 1, 3);
        }
        x.dial(1, 7);
        x.dial(0, 1);
        for (int i = 1; i < 7; i++) {
            check.due("call(1, 1)", x.call(1, 1), 2);
            if (i < 6) {
                x.down(i);
                x.dial(i + 1, 7);
            } else {
                x.down(i);
            }
            x.tick();
        }
        check.due("call(1, 7)", x.call(1, 7), 12);
        for (int i = 0; i < 10; i++) {
            check.due("acted(1, " + i + ")", x.acted(1, i), i);
        }
        check.due("acted(1, 10)", x.acted(1, 10), -1);
        check.due("acted(1, 11)", x.acted(1, 11), -1);
    }

    private static void telling() {
        WishLine x = Check.withLines(4);
        x.wish(1, Kind.SHARED, 0, 2, 0);
        x.wish(1, Kind.WAITING, 0, 0, 0);
        x.dial(0, 1);
        check.due("tells(0, 1)", x.tells(0, 1), 1);
        check.due("tells(0, 2)", x.tells(0, 2), 1);
        check.due("tells(0, 0)", x.tells(0, 0), 0);
        check.due("tells(0, 3)", x.tells(0, 3), 0);
        x.wish(0, Kind.HIDDEN, 0, 1, 0);
        check.due("hidden: tells(0, 1)", x.tells(0, 1), 1);
        check.due("hidden: tells(0, 2)", x.tells(0, 2), 0);
        x.wish(0, Kind.HIDDEN, 0, 3, 0);
        check.due("hidden twice: tells(0, 1)", x.tells(0, 1), 0);
        x.on(2, false);
        x.on(3, false);
        check.due("not on: tells(0, 1)", x.tells(0, 1), 1);
        x.dial(3, 1);
        check.due("knocks: tells(1, 1)", x.tells(1, 1), 1);
        x.wish(3, Kind.HIDDEN, 0, 0, 0);
        check.due("knocks, hidden: tells(1, 1)", x.tells(1, 1), 0);
        x.take(1);
        check.due("speaks: tells(0, 1)", x.tells(0, 1), 0);
        x.down(0);
        check.due("ended: tells(0, 1)", x.tells(0, 1), 0);
        check.due("tells(0, 4)", x.tells(0, 4), -1);
        check.due("tells(0, -1)", x.tells(0, -1), -1);
        check.due("tells(2, 0)", x.tells(2, 0), -1);
        check.due("tells(-1, 0)", x.tells(-1, 0), -1);
        x.wish(2, Kind.SHUT, 0, 1, 0);
        x.dial(2, 3);
        check.due("a shut hides no one", x.tells(2, 3), 0);
        x.down(2);
        x.down(3);
        x.dial(2, 3);
        check.due("a shut hides no one, on a free line", x.tells(3, 3), 1);
    }

    private static void likeRanksAfterTicks() {
        WishLine x = Check.withLines(4);
        x.wish(1, Kind.ONWARD, 2, 2, 3);
        x.wish(1, Kind.ONWARD, 2, 3, 3);
        x.dial(0, 1);
        x.tick();
        check.dueActed(x, 0, 0);
        check.dueCall(x, 0, 0, 0, 0, 2, 4, -1, 0, 1);
    }

    private static void theLastTick() {
        WishLine x = Check.withLines(2);
        x.dial(0, 1);
        x.take(1);
        for (int i = 1; i < 1000; i++) {
            x.tick();
        }
        check.done(x, "the 1000th tick()", x.tick(), 1000);
        check.refused(x, "the 1001st tick()", x.tick(), 2);
        check.due("count(3)", x.count(3), 1000);
        check.due("lineTold(0, 2)", x.lineTold(0, 2), 1000);
    }

    private static void callsBackAreDialledIn() {
        WishLine x = Check.withLines(4);
        x.wish(0, Kind.BACK, 0, 0, 0);
        x.wish(0, Kind.BACK, 0, 0, 0);
        x.dial(1, 2);
        x.dial(0, 1);
        check.dueCall(x, 1, 0, 3, 3, 1, 0, -1, 0, 0);
        check.dueActed(x, 1);
        check.due("count(4)", x.count(4), 1);
        x.tick();
        check.due("count(2)", x.count(2), 2);
        x.down(1);
        check.done(x, "tick()", x.tick(), 2);
        check.due("count(4)", x.count(4), 0);
        check.dueCall(x, 2, 0, 0, 0, 1, 2, -1, 0, 0);
    }
}
