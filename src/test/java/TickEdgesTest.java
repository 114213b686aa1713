/** Ticks and wishes back at their edges: what section 2 says of a tick, and promises 9 and 19. */
public final class TickEdgesTest {
    private static final Check check = new Check();
    private static final int MAX = Integer.MAX_VALUE;
    private static final int MIN = Integer.MIN_VALUE;

    public static void main(String[] args) {
        tickOfAnEmptyHouse();
        thousandTicks();
        onlySpeakersCost();
        eachPieceCosts();
        costComesBeforeAllElse();
        onlyRingersGetOn();
        onwardOfTheLastLine();
        onwardAtItsTickOnly();
        firstOnwardInOrder();
        onwardThatIsNotOn();
        noLineRingsThereAnyMore();
        tickSendsOnAndOn();
        tickSendsRound();
        tickSendsToABusyLine();
        tickIsShutOut();
        tickSendsToOneThatWaits();
        shutAtTheNewHour();
        turnsByNumbers();
        turnThatComesInTime();
        turnThatIsOver();
        knockerRingsBehindEachCall();
        backOfFreeLines();
        backOfOneThatIsNotFree();
        backsInTheirOrder();
        backOfTheSameTick();
        newBacksWait();
        backToItself();
        backWithoutRoom();
        backIntoTheLastRoom();
        backGoesByWishes();
        backThatIsShutOut();
        toldOfBacks();
        toldOfNoBack();
        check.end();
    }

    /** Promise 9, tick: "A TICK: THE TICK.": there need not be anything that it changes. */
    private static void tickOfAnEmptyHouse() {
        WishLine x = new WishLine();
        check.done(x, "tick()", x.tick(), 1);
        check.done(x, "tick()", x.tick(), 2);
        check.due("count(3)", x.count(3), 2);
        check.due("count(2)", x.count(2), 0);
    }

    /**
     * Promise 9, tick: "STATUS 2 (it would be above 1000).": the 1000th comes, the next does not. So many calls
     * are more than one object is promised, so this holds only for as long as the class keeps no count of calls.
     */
    private static void thousandTicks() {
        WishLine x = new WishLine();
        for (int i = 1; i <= 1000; i++) {
            check.due("tick()", x.tick(), i);
        }
        check.due("status()", x.status(), 0);
        check.refused(x, "the 1001st tick()", x.tick(), 2);
        check.refused(x, "the 1002nd tick()", x.tick(), 2);
        check.due("count(3)", x.count(3), 1000);
    }

    /**
     * Section 2, "(a) Each CALL that SPEAKS, by numbers: each of its PIECES costs its payer 1.": not one that
     * rings, knocks or is ended.
     */
    private static void onlySpeakersCost() {
        WishLine x = Check.withLines(6);
        x.wish(1, Kind.WAITING, 0, 0, 0);
        x.dial(0, 1);
        x.take(1);
        x.dial(2, 1);
        x.dial(3, 4);
        x.dial(5, 5);
        x.tick();
        int[] want = {1, 0, 0, 0, 0, 0};
        for (int line = 0; line < 6; line++) {
            check.due("lineTold(" + line + ", 2)", x.lineTold(line, 2), want[line]);
        }
        x.down(0);
        x.tick();
        for (int line = 0; line < 6; line++) {
            check.due("then lineTold(" + line + ", 2)", x.lineTold(line, 2), want[line]);
        }
    }

    /** Section 2, "each of its PIECES costs its payer 1.": a line that pays two pieces, and in two calls. */
    private static void eachPieceCosts() {
        WishLine x = Check.withLines(5);
        x.wish(1, Kind.PAID, 0, 0, 0);
        x.wish(1, Kind.ONWARD, 0, 2, 0);
        x.dial(0, 1);
        x.take(2);
        x.dial(3, 1);
        check.due("busy", x.call(1, 2), 3);
        x.tick();
        check.due("lineTold(1, 2)", x.lineTold(1, 2), 2);
        x.wish(1, Kind.ONWARD, 0, 4, 0);
        x.on(1, false);
        x.dial(3, 1);
        x.take(4);
        x.tick();
        check.due("lineTold(1, 2)", x.lineTold(1, 2), 6);
        check.due("lineTold(0, 2)", x.lineTold(0, 2), 0);
        check.due("lineTold(3, 2)", x.lineTold(3, 2), 0);
    }

    /**
     * Section 2, "A TICK: THE TICK is one more. (a) Each CALL that SPEAKS": a call that only begins in (c) costs
     * nothing yet.
     */
    private static void costComesBeforeAllElse() {
        WishLine x = Check.withLines(3);
        x.wish(0, Kind.BACK, 0, 0, 0);
        x.dial(1, 2);
        x.dial(0, 1);
        x.down(1);
        x.tick();
        check.dueCall(x, 2, 0, 0, 0, 1, 2, -1, 0, 0);
        x.take(1);
        check.due("lineTold(0, 2)", x.lineTold(0, 2), 0);
        x.tick();
        check.due("lineTold(0, 2)", x.lineTold(0, 2), 1);
    }

    /**
     * Section 2, "(b) Each CALL that RINGS as its turn comes, by numbers: it has rung one TICK more;": one that
     * speaks or knocks has not.
     */
    private static void onlyRingersGetOn() {
        WishLine x = Check.withLines(6);
        x.wish(1, Kind.WAITING, 0, 0, 0);
        x.wish(1, Kind.ONWARD, 0, 5, 3);
        x.dial(0, 1);
        x.take(1);
        x.dial(2, 1);
        x.dial(3, 4);
        x.tick();
        check.dueCall(x, 0, 0, 1, 0, 1, 0, 1, 0, 0);
        check.dueCall(x, 1, 2, 2, 0, 1, 0, 1, 0, 1);
        check.dueCall(x, 2, 3, 0, 0, 1, 16, -1, 1, 0);
    }

    /**
     * Section 2, "if the last LINE of its ROW has an ONWARD of 2 + n that is ON, n being how long it has rung, the
     * first such in ORDER ACTS: no LINE rings there any more, and it GOES to the TARGET, coming from that LINE.":
     * not one of an earlier line of the row, nor of a line with which it shares.
     */
    private static void onwardOfTheLastLine() {
        WishLine x = Check.withLines(6);
        x.wish(1, Kind.ONWARD, 0, 2, 0);
        x.wish(1, Kind.ONWARD, 0, 4, 3);
        x.wish(2, Kind.SHARED, 0, 3, 0);
        x.wish(3, Kind.ONWARD, 0, 4, 3);
        x.wish(0, Kind.ONWARD, 0, 4, 3);
        x.wish(2, Kind.ONWARD, 0, 5, 4);
        x.dial(0, 1);
        x.tick();
        check.dueCall(x, 0, 0, 0, 0, 2, 12, -1, 1, 1);
        x.tick();
        check.dueCall(x, 0, 0, 0, 0, 3, 32, -1, 0, 2);
        check.dueActed(x, 0, 0, 5);
        check.duePieces(x, 0, 0, 1, 2);
    }

    /** Section 2, "n being how long it has rung": one whose tick is over acts no more, and 9 is the last. */
    private static void onwardAtItsTickOnly() {
        WishLine x = Check.withLines(3);
        x.wish(1, Kind.ONWARD, 0, 2, 3);
        x.wish(1, Kind.ONWARD, 0, 2, 11);
        x.on(0, false);
        x.on(1, false);
        x.dial(0, 1);
        for (int tick = 1; tick <= 9; tick++) {
            x.tick();
        }
        x.on(0, true);
        x.on(1, true);
        for (int tick = 10; tick <= 40; tick++) {
            x.tick();
            check.due("call(0, 6)", x.call(0, 6), tick);
            check.due("call(0, 4)", x.call(0, 4), 2);
        }
        check.dueActed(x, 0);
    }

    /**
     * Section 2, "the first such in ORDER ACTS": by rank, of like ranks by number; a SHUT of a lesser rank does
     * not matter.
     */
    private static void firstOnwardInOrder() {
        WishLine x = Check.withLines(6);
        x.wish(1, Kind.SHUT, 0, 5, 3);
        x.wish(1, Kind.ONWARD, 4, 2, 3);
        x.wish(1, Kind.ONWARD, 3, 3, 3);
        x.wish(1, Kind.ONWARD, 3, 4, 3);
        x.dial(0, 1);
        x.tick();
        check.dueActed(x, 0, 2);
        check.dueRow(x, 0, 1, 3);
        x.down(0);
        x.on(2, false);
        x.dial(0, 1);
        x.tick();
        check.dueActed(x, 1, 3);
        check.dueRow(x, 1, 1, 4);
    }

    /** Section 2, "has an ONWARD of 2 + n that is ON": as it is when the tick comes. */
    private static void onwardThatIsNotOn() {
        WishLine x = Check.withLines(4);
        x.wish(1, Kind.ONWARD, 0, 2, 3);
        x.dial(0, 1);
        x.on(0, false);
        x.tick();
        check.dueCall(x, 0, 0, 0, 0, 1, 2, -1, 1, 0);
        x.wish(1, Kind.ONWARD, 0, 3, 4);
        x.tick();
        check.dueCall(x, 0, 0, 0, 0, 2, 8, -1, 0, 1);
    }

    /**
     * Section 2, "no LINE rings there any more, and it GOES to the TARGET, coming from that LINE.": also to a line
     * that rang with it.
     */
    private static void noLineRingsThereAnyMore() {
        WishLine x = Check.withLines(4);
        x.wish(1, Kind.SHARED, 0, 2, 0);
        x.wish(1, Kind.SHARED, 0, 3, 0);
        x.wish(1, Kind.ONWARD, 0, 2, 3);
        x.wish(2, Kind.ONWARD, 0, 3, 1);
        x.dial(0, 1);
        check.due("call(0, 4)", x.call(0, 4), 14);
        x.tick();
        check.dueCall(x, 0, 0, 0, 0, 2, 4, -1, 0, 1);
        int[] want = {0, -1, 0, -1};
        for (int line = 0; line < 4; line++) {
            check.due("lineTold(" + line + ", 0)", x.lineTold(line, 0), want[line]);
        }
    }

    /** Section 2, "it GOES to the TARGET": from there it goes on at once, but it has its next tick only then. */
    private static void tickSendsOnAndOn() {
        WishLine x = Check.withLines(5);
        x.wish(1, Kind.ONWARD, 0, 2, 3);
        x.wish(2, Kind.ONWARD, 0, 3, 0);
        x.wish(3, Kind.ONWARD, 0, 4, 3);
        x.dial(0, 1);
        x.tick();
        check.dueRow(x, 0, 1, 2, 3);
        check.dueCall(x, 0, 0, 0, 0, 3, 8, -1, 0, 2);
        x.tick();
        check.dueRow(x, 0, 1, 2, 3, 4);
        check.dueActed(x, 0, 0, 1, 2);
        check.duePieces(x, 0, 0, 1, 2, 3);
    }

    /** Section 2, "it is ENDED, REASON 2.": in a tick, to its caller, to its own line, to a line of its row. */
    private static void tickSendsRound() {
        int[] targets = {0, 1, 2};
        for (int target : targets) {
            WishLine x = Check.withLines(3);
            x.wish(1, Kind.ONWARD, 0, 2, 0);
            x.wish(2, Kind.ONWARD, 0, target, 4);
            x.dial(0, 1);
            x.tick();
            x.tick();
            check.dueCall(x, 0, 0, 3, 2, 2, 0, -1, 2, 2);
            check.dueRow(x, 0, 1, 2);
            check.due("lineTold(0, 0)", x.lineTold(0, 0), -1);
            check.due("lineTold(2, 0)", x.lineTold(2, 0), -1);
        }
    }

    /** Section 2, "the CALL is ENDED, REASON 3;": in a tick, with a wish back to the busy line. */
    private static void tickSendsToABusyLine() {
        WishLine x = Check.withLines(4);
        x.wish(0, Kind.BACK, 0, 0, 0);
        x.wish(1, Kind.ONWARD, 0, 2, 3);
        x.dial(0, 1);
        x.dial(2, 3);
        x.take(3);
        x.tick();
        check.dueCall(x, 0, 0, 3, 3, 2, 0, -1, 1, 1);
        check.dueBacks(x, 0, 2);
    }

    /** Section 2, "the CALL is ENDED, REASON 1.": in a tick, by the line that sends on. */
    private static void tickIsShutOut() {
        WishLine x = Check.withLines(3);
        x.wish(1, Kind.ONWARD, 0, 2, 3);
        x.wish(2, Kind.SHUT, 0, 1, 5);
        x.dial(0, 1);
        x.tick();
        check.dueCall(x, 0, 0, 3, 1, 2, 0, -1, 1, 2);
        check.dueActed(x, 0, 0, 1);
        check.due("lineTold(1, 0)", x.lineTold(1, 0), -1);
    }

    /** Section 2, "the CALL KNOCKS at t.": in a tick; how long it rang before is told still. */
    private static void tickSendsToOneThatWaits() {
        WishLine x = Check.withLines(4);
        x.wish(1, Kind.ONWARD, 0, 2, 4);
        x.wish(2, Kind.WAITING, 0, 0, 0);
        x.dial(0, 1);
        x.dial(2, 3);
        x.tick();
        x.tick();
        check.dueCall(x, 0, 0, 2, 0, 2, 0, 2, 2, 2);
        x.tick();
        check.dueCall(x, 0, 0, 2, 0, 2, 0, 2, 2, 2);
        x.down(2);
        check.dueCall(x, 0, 0, 0, 0, 2, 4, -1, 0, 2);
    }

    /** Section 2, "A TICK: THE TICK is one more.": before calls go, so that hour 12 is hour 12 for them. */
    private static void shutAtTheNewHour() {
        WishLine x = Check.withLines(3);
        x.wish(1, Kind.ONWARD, 0, 2, 3);
        x.wish(2, Kind.SHUT, 0, 0, 2);
        for (int tick = 0; tick < 11; tick++) {
            x.tick();
        }
        x.dial(0, 1);
        x.tick();
        check.due("call(0, 2) at 12", x.call(0, 2), 1);
        for (int tick = 12; tick < 23; tick++) {
            x.tick();
        }
        x.dial(0, 1);
        x.tick();
        check.due("call(1, 2) at 24", x.call(1, 2), 0);
    }

    /** Section 2, "(b) Each CALL that RINGS as its turn comes, by numbers": the lesser number gets the free line. */
    private static void turnsByNumbers() {
        WishLine x = Check.withLines(5);
        x.wish(1, Kind.ONWARD, 0, 4, 3);
        x.wish(3, Kind.ONWARD, 0, 4, 3);
        x.dial(2, 3);
        x.dial(0, 1);
        x.tick();
        check.dueCall(x, 0, 2, 0, 0, 2, 16, -1, 0, 1);
        check.dueCall(x, 1, 0, 3, 3, 2, 0, -1, 1, 1);
    }

    /**
     * Section 2, "(b) Each CALL that RINGS as its turn comes": one that a lesser call lets ring in this tick has
     * rung 1.
     */
    private static void turnThatComesInTime() {
        WishLine x = Check.withLines(4);
        x.wish(1, Kind.WAITING, 0, 0, 0);
        x.wish(1, Kind.ONWARD, 0, 2, 4);
        x.dial(0, 1);
        x.dial(3, 1);
        x.tick();
        check.due("it knocks", x.call(1, 1), 2);
        x.tick();
        check.dueCall(x, 0, 0, 0, 0, 2, 4, -1, 0, 1);
        check.dueCall(x, 1, 3, 0, 0, 1, 2, -1, 1, 1);
    }

    /**
     * Section 2, "(b) Each CALL that RINGS as its turn comes": one that a greater call lets ring has had its turn,
     * and has rung 0.
     */
    private static void turnThatIsOver() {
        WishLine x = Check.withLines(6);
        x.wish(1, Kind.WAITING, 0, 0, 0);
        x.wish(1, Kind.ONWARD, 0, 2, 4);
        x.wish(4, Kind.ONWARD, 0, 1, 3);
        x.dial(3, 4);
        x.dial(0, 1);
        x.tick();
        check.dueCall(x, 0, 3, 2, 0, 2, 0, 1, 1, 2);
        x.tick();
        check.dueCall(x, 1, 0, 0, 0, 2, 4, -1, 0, 1);
        check.dueCall(x, 0, 3, 0, 0, 2, 2, -1, 0, 2);
    }

    /** Section 2, "and in a TICK behind each CALL of (b)": so the next call finds the line busy again. */
    private static void knockerRingsBehindEachCall() {
        WishLine x = Check.withLines(6);
        x.wish(1, Kind.WAITING, 0, 0, 0);
        x.wish(1, Kind.ONWARD, 0, 2, 3);
        x.wish(5, Kind.ONWARD, 0, 1, 3);
        x.dial(0, 1);
        x.dial(4, 5);
        x.dial(3, 1);
        check.due("it knocks", x.call(2, 1), 2);
        x.tick();
        check.dueCall(x, 0, 0, 0, 0, 2, 4, -1, 0, 1);
        check.dueCall(x, 1, 4, 0, 0, 2, 2, -1, 0, 2);
        check.dueActed(x, 1, 2, 0);
        check.dueCall(x, 2, 3, 3, 3, 2, 0, -1, 1, 2);
    }

    /**
     * Section 2, "(c) The WISHES BACK that there are then, in the order in which they came: if both LINES are FREE
     * (and CALLS have room): it goes, and a CALL of the first LINE is DIALLED to the second one."
     */
    private static void backOfFreeLines() {
        WishLine x = Check.withLines(4);
        x.wish(0, Kind.BACK, 0, 3, 0);
        x.dial(1, 2);
        x.dial(0, 1);
        x.down(1);
        check.dueBacks(x, 0, 1);
        check.done(x, "tick()", x.tick(), 1);
        check.dueBacks(x);
        check.dueCall(x, 2, 0, 0, 0, 1, 2, -1, 0, 0);
        x.tick();
        check.due("call(2, 6)", x.call(2, 6), 1);
        check.due("count(2)", x.count(2), 3);
    }

    /** Section 2, "if both LINES are FREE": neither the first nor the second one may be in a call. */
    private static void backOfOneThatIsNotFree() {
        WishLine x = Check.withLines(4);
        x.wish(0, Kind.BACK, 0, 3, 0);
        x.dial(1, 2);
        x.dial(0, 1);
        x.tick();
        check.due("the second is a caller", x.count(2), 2);
        x.down(1);
        x.dial(0, 3);
        x.tick();
        check.due("the first is a caller", x.count(2), 3);
        x.down(0);
        x.dial(3, 0);
        x.tick();
        check.due("the first rings", x.count(2), 4);
        x.down(3);
        x.dial(3, 1);
        x.tick();
        check.due("the second rings", x.count(2), 5);
        check.dueBacks(x, 0, 1);
        x.down(3);
        x.tick();
        check.due("both are free", x.count(2), 6);
        check.dueBacks(x);
    }

    /** Section 2, "in the order in which they came": not by lines; one that goes leaves the others in order. */
    private static void backsInTheirOrder() {
        WishLine x = Check.withLines(6);
        for (int line = 0; line < 4; line++) {
            x.wish(line, Kind.BACK, 0, 0, 0);
        }
        x.dial(4, 5);
        x.dial(3, 4);
        x.dial(1, 5);
        x.dial(2, 4);
        x.dial(0, 5);
        check.dueBacks(x, 3, 4, 1, 5, 2, 4, 0, 5);
        x.down(4);
        x.tick();
        check.dueBacks(x, 2, 4, 0, 5);
        check.due("call(5, 0)", x.call(5, 0), 3);
        check.due("call(6, 0)", x.call(6, 0), 1);
        check.due("count(2)", x.count(2), 7);
    }

    /** Section 2, "(c) The WISHES BACK that there are then": one that (b) of this tick makes is among them. */
    private static void backOfTheSameTick() {
        WishLine x = Check.withLines(4);
        x.wish(0, Kind.BACK, 0, 0, 0);
        x.wish(1, Kind.ONWARD, 0, 2, 3);
        x.wish(3, Kind.ONWARD, 0, 3, 3);
        x.dial(0, 1);
        x.dial(2, 3);
        x.tick();
        check.dueCall(x, 0, 0, 3, 3, 2, 0, -1, 1, 1);
        check.dueCall(x, 1, 2, 3, 2, 1, 0, -1, 1, 1);
        check.dueCall(x, 2, 0, 0, 0, 1, 4, -1, 0, 0);
        check.dueBacks(x);
    }

    /** Section 2, "(c) The WISHES BACK that there are then": one that a call of (c) makes waits for the next tick. */
    private static void newBacksWait() {
        WishLine x = Check.withLines(2);
        x.wish(0, Kind.BACK, 0, 0, 0);
        x.wish(1, Kind.BACK, 0, 0, 0);
        x.dial(0, 0);
        x.dial(1, 1);
        check.dueBacks(x, 0, 0, 1, 1);
        x.tick();
        check.due("count(2)", x.count(2), 4);
        check.dueBacks(x, 0, 0, 1, 1);
        check.dueCall(x, 2, 0, 3, 3, 1, 0, -1, 0, 0);
        check.dueCall(x, 3, 1, 3, 3, 1, 0, -1, 0, 0);
        x.dial(0, 1);
        x.tick();
        check.due("count(2)", x.count(2), 5);
    }

    /** Section 2, "if both LINES are FREE": they may be one line. */
    private static void backToItself() {
        WishLine x = Check.withLines(2);
        x.wish(0, Kind.BACK, 0, 0, 0);
        x.dial(0, 0);
        check.dueBacks(x, 0, 0);
        x.wish(0, Kind.ONWARD, 0, 1, 1);
        x.tick();
        check.dueBacks(x);
        check.dueCall(x, 1, 0, 0, 0, 2, 2, -1, 0, 1);
    }

    /** Section 2, "(and CALLS have room)": without room it stays, and the tick is done. */
    private static void backWithoutRoom() {
        WishLine x = Check.withLines(3);
        x.wish(0, Kind.BACK, 0, 0, 0);
        x.dial(1, 2);
        x.dial(0, 1);
        for (int i = 2; i < 60; i++) {
            x.dial(0, 0);
        }
        check.dueBacks(x, 0, 1, 0, 0);
        x.down(1);
        check.done(x, "tick()", x.tick(), 1);
        check.due("count(2)", x.count(2), 60);
        check.due("lineTold(0, 0)", x.lineTold(0, 0), -1);
        check.dueBacks(x, 0, 1, 0, 0);
    }

    /** Section 2, "(and CALLS have room)": the 60th call is one of them, and the next wish back stays. */
    private static void backIntoTheLastRoom() {
        WishLine x = Check.withLines(5);
        x.wish(0, Kind.BACK, 0, 0, 0);
        x.wish(1, Kind.BACK, 0, 0, 0);
        x.dial(2, 3);
        x.dial(0, 2);
        x.dial(1, 3);
        for (int i = 3; i < 59; i++) {
            x.dial(4, 4);
        }
        x.down(2);
        x.tick();
        check.due("count(2)", x.count(2), 60);
        check.dueCall(x, 59, 0, 0, 0, 1, 4, -1, 0, 0);
        check.dueBacks(x, 1, 3);
    }

    /** Section 2, "a CALL of the first LINE is DIALLED to the second one.": it goes by the wishes as each call. */
    private static void backGoesByWishes() {
        WishLine x = Check.withLines(5);
        x.wish(0, Kind.BACK, 0, 0, 0);
        x.dial(1, 2);
        x.dial(0, 1);
        x.wish(1, Kind.PAID, 0, 0, 0);
        x.wish(1, Kind.ONWARD, 0, 3, 0);
        x.wish(3, Kind.SHARED, 0, 4, 0);
        x.down(1);
        x.tick();
        check.dueCall(x, 2, 0, 0, 0, 2, 24, -1, 0, 1);
        check.duePieces(x, 2, 1, 1);
        check.dueActed(x, 2, 2);
    }

    /**
     * Section 2, "it goes, and a CALL of the first LINE is DIALLED": it goes also if that call is shut out, and
     * comes again only if it ends busy.
     */
    private static void backThatIsShutOut() {
        WishLine x = Check.withLines(4);
        x.wish(0, Kind.BACK, 0, 0, 0);
        x.dial(1, 2);
        x.dial(0, 1);
        x.wish(1, Kind.SHUT, 0, 0, 3);
        x.down(1);
        x.tick();
        check.dueCall(x, 2, 0, 3, 1, 1, 0, -1, 0, 1);
        check.dueBacks(x);
        x.on(1, false);
        x.dial(1, 2);
        x.dial(0, 1);
        x.wish(1, Kind.ONWARD, 0, 3, 0);
        x.down(1);
        x.dial(3, 2);
        x.tick();
        check.dueCall(x, 6, 0, 3, 3, 2, 0, -1, 0, 1);
        check.dueBacks(x, 0, 3);
    }

    /**
     * Promise 19, backs: "Of the i-th WISH BACK: 0 the first LINE, 1 the second one. -1: none such.": the first
     * and the eighth.
     */
    private static void toldOfBacks() {
        WishLine x = Check.withLines(8);
        for (int line = 0; line < 8; line++) {
            x.wish(line, Kind.BACK, 0, 0, 0);
            x.dial(line, line);
        }
        check.dueBacks(x, 0, 0, 1, 1, 2, 2, 3, 3, 4, 4, 5, 5, 6, 6, 7, 7);
        int[] none = {-1, 2, MAX, MIN};
        for (int what : none) {
            check.due("backs(0, " + what + ")", x.backs(0, what), -1);
            check.due("backs(7, " + what + ")", x.backs(7, what), -1);
        }
    }

    /** Promise 19, backs: "-1: none such.": there are none, and of a number outside. */
    private static void toldOfNoBack() {
        WishLine x = Check.withLines(1);
        x.wish(0, Kind.BACK, 0, 0, 0);
        check.due("backs(0, 0)", x.backs(0, 0), -1);
        check.due("backs(0, 1)", x.backs(0, 1), -1);
        x.dial(0, 0);
        int[] none = {-1, 1, 7, 8, MAX, MIN};
        for (int i : none) {
            check.due("backs(" + i + ", 0)", x.backs(i, 0), -1);
            check.due("backs(" + i + ", 1)", x.backs(i, 1), -1);
        }
        check.due("backs(0, 0)", x.backs(0, 0), 0);
    }
}
