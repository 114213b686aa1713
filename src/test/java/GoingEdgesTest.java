/** How a call goes, at its edges: section 2 of the document, but what a tick does. */
public final class GoingEdgesTest {
    private static final Check check = new Check();

    public static void main(String[] args) {
        firstStepToTheCaller();
        laterStepToTheCaller();
        stepToALineOfTheRow();
        stepToItself();
        ringOfEight();
        rowOfEight();
        pieceBySender();
        firstPiecePaid();
        laterPieceNotPaid();
        paidThatIsNotOn();
        paidOfTheCaller();
        firstInOrderActs();
        likeRanksByNumbers();
        onlyThoseThatAreOnAct();
        onlyOwnWishesAct();
        hiddenShutsNoOne();
        shutOfTheCaller();
        shutOfTheSender();
        shutOfAnEarlierSender();
        shutWithoutBitTwo();
        shutWithoutHours();
        shutAtTheHourOnly();
        onwardIfNotFree();
        onwardIfTheCaller();
        onwardsThatWaitDoNotActYet();
        waitingAtAFreeLine();
        waitingAtTheCaller();
        waitingOnlyOnce();
        waitingAgain();
        waitingSentOn();
        busyEnds();
        theCallersOwnLineEnds();
        backsOfTheCaller();
        backOnlyIfBusy();
        backToTheLastLine();
        oneBackOfTwoLines();
        backTheOtherWayRound();
        eightBacks();
        noRoomForABack();
        sharedThatIsFree();
        sharedThatIsTheCaller();
        sharedThatIsNotOn();
        sharedOfOthers();
        sharedWithItself();
        rungNoTicks();
        tenActs();
        elevenActs();
        knockerRingsBehindDown();
        knockersOfBothLines();
        knockersOfTheFirstAndTheLastLine();
        knockerRingsBehindTake();
        knockerRingsAtNoOther();
        knockerWaitsOn();
        tellsWhereItRings();
        tellsWhereItKnocks();
        hiddenButToItsTarget();
        hiddenTwice();
        hiddenThatIsNotOn();
        hiddenOfAnother();
        check.end();
    }

    /** Lines 2 and 3 speak, so that both are busy. */
    private static WishLine withBusyLines(int lines) {
        WishLine x = Check.withLines(lines);
        x.dial(2, 3);
        x.take(3);
        return x;
    }

    /**
     * Section 2, "A CALL GOES to a LINE t, coming from a LINE s (of the first step the CALLER, at first; else the
     * one that sends on): if t is in its ROW (or it is the CALLER and this is not the first step): it is ENDED,
     * REASON 2.": the first step to the caller comes into the row.
     */
    private static void firstStepToTheCaller() {
        WishLine x = Check.withLines(2);
        x.wish(0, Kind.ONWARD, 0, 1, 0);
        x.dial(0, 0);
        check.dueCall(x, 0, 0, 0, 0, 2, 2, -1, 0, 1);
        check.dueRow(x, 0, 0, 1);
    }

    /** Section 2, "(or it is the CALLER and this is not the first step)": the row does not get the caller. */
    private static void laterStepToTheCaller() {
        WishLine x = Check.withLines(3);
        x.wish(1, Kind.ONWARD, 0, 0, 0);
        x.wish(2, Kind.ONWARD, 0, 1, 0);
        x.dial(0, 1);
        check.dueCall(x, 0, 0, 3, 2, 1, 0, -1, 0, 1);
        check.dueRow(x, 0, 1);
        check.duePieces(x, 0, 0);
        x.dial(0, 2);
        check.dueCall(x, 1, 0, 3, 2, 2, 0, -1, 0, 2);
        check.dueRow(x, 1, 2, 1);
        check.dueActed(x, 1, 1, 0);
    }

    /** Section 2, "if t is in its ROW": it comes round to the first line of the row, and to a later one. */
    private static void stepToALineOfTheRow() {
        WishLine x = Check.withLines(4);
        x.wish(1, Kind.ONWARD, 0, 2, 0);
        x.wish(2, Kind.ONWARD, 0, 3, 0);
        x.wish(3, Kind.ONWARD, 0, 1, 0);
        x.dial(0, 1);
        check.dueCall(x, 0, 0, 3, 2, 3, 0, -1, 0, 3);
        check.dueRow(x, 0, 1, 2, 3);
        check.duePieces(x, 0, 0, 1, 2);
        x.on(2, false);
        x.wish(3, Kind.ONWARD, 0, 2, 0);
        x.dial(0, 1);
        check.dueCall(x, 1, 0, 3, 2, 3, 0, -1, 0, 3);
        check.dueActed(x, 1, 0, 1, 3);
        check.dueBacks(x);
    }

    /** Section 2, "if t is in its ROW": a line that sends on to itself. */
    private static void stepToItself() {
        WishLine x = Check.withLines(2);
        x.wish(1, Kind.ONWARD, 0, 1, 0);
        x.dial(0, 1);
        check.dueCall(x, 0, 0, 3, 2, 1, 0, -1, 0, 1);
        check.dueRow(x, 0, 1);
        x.dial(1, 1);
        check.dueCall(x, 1, 1, 3, 2, 1, 0, -1, 0, 1);
        check.dueRow(x, 1, 1);
    }

    /** Section 2, "if t is in its ROW": all eight lines stand in the row and the eighth sends on. */
    private static void ringOfEight() {
        WishLine x = Check.withLines(8);
        for (int i = 0; i < 8; i++) {
            x.wish(i, Kind.ONWARD, 0, (i + 1) % 8, 0);
        }
        x.dial(5, 5);
        check.dueCall(x, 0, 5, 3, 2, 8, 0, -1, 0, 8);
        check.dueRow(x, 0, 5, 6, 7, 0, 1, 2, 3, 4);
        check.duePieces(x, 0, 5, 5, 6, 7, 0, 1, 2, 3);
        check.dueActed(x, 0, 5, 6, 7, 0, 1, 2, 3, 4);
        x.dial(5, 6);
        check.dueCall(x, 1, 5, 3, 2, 7, 0, -1, 0, 7);
        for (int line = 0; line < 8; line++) {
            check.due("lineTold(" + line + ", 0)", x.lineTold(line, 0), -1);
        }
    }

    /** Section 2, "Else t comes behind its ROW, and a PIECE": the eighth line rings. */
    private static void rowOfEight() {
        WishLine x = Check.withLines(8);
        for (int i = 0; i < 7; i++) {
            x.wish(i, Kind.ONWARD, 0, i + 1, 0);
        }
        x.dial(0, 0);
        check.dueCall(x, 0, 0, 0, 0, 8, 128, -1, 0, 7);
        check.dueRow(x, 0, 0, 1, 2, 3, 4, 5, 6, 7);
        x.take(7);
        x.tick();
        int[] costs = {2, 1, 1, 1, 1, 1, 1, 0};
        for (int line = 0; line < 8; line++) {
            check.due("lineTold(" + line + ", 2)", x.lineTold(line, 2), costs[line]);
        }
    }

    /**
     * Section 2, "Else t comes behind its ROW, and a PIECE: it is paid by s;": also of a call that is shut out
     * there.
     */
    private static void pieceBySender() {
        WishLine x = Check.withLines(3);
        x.wish(1, Kind.ONWARD, 0, 2, 0);
        x.wish(2, Kind.SHUT, 0, 0, 3);
        x.dial(0, 1);
        check.dueCall(x, 0, 0, 3, 1, 2);
        check.dueRow(x, 0, 1, 2);
        check.duePieces(x, 0, 0, 1);
    }

    /** Section 2, "the first PIECE by t instead, if t has a PAID that is ON." */
    private static void firstPiecePaid() {
        WishLine x = Check.withLines(3);
        x.wish(1, Kind.PAID, 9, 2, 0);
        x.dial(0, 1);
        check.duePieces(x, 0, 1);
        x.take(1);
        x.tick();
        check.due("lineTold(0, 2)", x.lineTold(0, 2), 0);
        check.due("lineTold(1, 2)", x.lineTold(1, 2), 1);
        check.due("lineTold(2, 2)", x.lineTold(2, 2), 0);
    }

    /** Section 2, "the first PIECE by t instead, if t has a PAID that is ON.": not a later one. */
    private static void laterPieceNotPaid() {
        WishLine x = Check.withLines(4);
        x.wish(1, Kind.ONWARD, 0, 2, 0);
        x.wish(2, Kind.PAID, 0, 0, 0);
        x.wish(2, Kind.ONWARD, 0, 3, 3);
        x.wish(3, Kind.PAID, 0, 0, 0);
        x.dial(0, 1);
        check.duePieces(x, 0, 0, 1);
        x.tick();
        check.dueRow(x, 0, 1, 2, 3);
        check.duePieces(x, 0, 0, 1, 2);
    }

    /** Section 2, "if t has a PAID that is ON.": as it is when the call goes. */
    private static void paidThatIsNotOn() {
        WishLine x = Check.withLines(2);
        x.wish(1, Kind.PAID, 0, 0, 0);
        x.on(0, false);
        x.dial(0, 1);
        check.duePieces(x, 0, 0);
        x.on(0, true);
        check.duePieces(x, 0, 0);
        x.down(0);
        x.dial(0, 1);
        check.duePieces(x, 1, 1);
        x.on(0, false);
        check.duePieces(x, 1, 1);
    }

    /** Section 2, "if t has a PAID that is ON.": the caller's own does not matter, but where it dials itself. */
    private static void paidOfTheCaller() {
        WishLine x = Check.withLines(3);
        x.wish(1, Kind.PAID, 0, 0, 0);
        x.wish(1, Kind.ONWARD, 0, 2, 1);
        x.dial(1, 2);
        check.duePieces(x, 0, 1);
        x.down(1);
        x.dial(1, 1);
        check.duePieces(x, 1, 1, 1);
        x.down(1);
        x.dial(0, 2);
        check.duePieces(x, 2, 0);
    }

    /** Section 2, "Then of t's WISHES, in ORDER, the first that ACTS": the least rank, whatever its number. */
    private static void firstInOrderActs() {
        WishLine x = Check.withLines(4);
        x.wish(1, Kind.ONWARD, 9, 2, 0);
        x.wish(1, Kind.SHUT, 8, 0, 1);
        x.wish(1, Kind.WAITING, 0, 0, 0);
        x.dial(0, 1);
        check.dueCall(x, 0, 0, 3, 1, 1, 0, -1, 0, 1);
        check.dueActed(x, 0, 1);
        x.rank(0, 0);
        x.dial(0, 1);
        check.dueRow(x, 1, 1, 2);
        check.dueActed(x, 1, 0);
    }

    /** Section 2, "Then of t's WISHES, in ORDER, the first that ACTS": of like ranks the lesser number. */
    private static void likeRanksByNumbers() {
        WishLine x = Check.withLines(4);
        x.wish(1, Kind.ONWARD, 5, 2, 0);
        x.wish(1, Kind.SHUT, 5, 0, 1);
        x.wish(1, Kind.ONWARD, 5, 3, 0);
        x.dial(0, 1);
        check.dueActed(x, 0, 0);
        x.down(0);
        x.on(0, false);
        x.dial(0, 1);
        check.dueActed(x, 1, 1);
        x.on(1, false);
        x.dial(0, 1);
        check.dueActed(x, 2, 2);
        check.dueRow(x, 2, 1, 3);
    }

    /** Section 2, "Then of t's WISHES, in ORDER, the first that ACTS": those that are not on stand in no order. */
    private static void onlyThoseThatAreOnAct() {
        int[] kinds = {Kind.ONWARD, Kind.SHUT, Kind.WAITING};
        int[] numbers = {0, 3, 0};
        for (int i = 0; i < 3; i++) {
            WishLine x = withBusyLines(4);
            x.wish(2, kinds[i], 0, 0, numbers[i]);
            x.dial(0, 2);
            check.due("kind " + kinds[i] + " acts", x.call(1, 7), 1);
            x.down(0);
            x.on(0, false);
            x.dial(0, 2);
            check.dueCall(x, 2, 0, 3, 3, 1, 0, -1, 0, 0);
        }
    }

    /** Section 2, "Then of t's WISHES, in ORDER, the first that ACTS": not those of the caller or of another line. */
    private static void onlyOwnWishesAct() {
        WishLine x = Check.withLines(4);
        x.wish(0, Kind.ONWARD, 0, 3, 0);
        x.wish(0, Kind.SHUT, 0, 0, 7);
        x.wish(2, Kind.ONWARD, 0, 3, 0);
        x.wish(2, Kind.SHUT, 0, 0, 7);
        x.dial(0, 1);
        check.dueCall(x, 0, 0, 0, 0, 1, 2, -1, 0, 0);
    }

    /**
     * Section 2, "SHUT (not HIDDEN), if its TARGET is the CALLER": a hidden with the same numbers shuts no one
     * out.
     */
    private static void hiddenShutsNoOne() {
        WishLine x = Check.withLines(2);
        x.wish(1, Kind.HIDDEN, 0, 0, 7);
        x.dial(0, 1);
        check.dueCall(x, 0, 0, 0, 0, 1, 2, -1, 0, 0);
        x.down(0);
        x.wish(1, Kind.SHUT, 9, 0, 7);
        x.dial(0, 1);
        check.dueCall(x, 1, 0, 3, 1, 1, 0, -1, 0, 1);
        check.dueActed(x, 1, 1);
    }

    /**
     * Section 2, "SHUT (not HIDDEN), if its TARGET is the CALLER, or bit 2 is told and its TARGET is s, and THE
     * HOUR is as bits 0 and 1 tell: the CALL is ENDED, REASON 1.": the caller, also by way of another line.
     */
    private static void shutOfTheCaller() {
        WishLine x = Check.withLines(3);
        x.wish(2, Kind.SHUT, 0, 0, 1);
        x.wish(1, Kind.ONWARD, 0, 2, 0);
        x.dial(0, 2);
        check.dueCall(x, 0, 0, 3, 1, 1, 0, -1, 0, 1);
        x.dial(0, 1);
        check.dueCall(x, 1, 0, 3, 1, 2, 0, -1, 0, 2);
        check.dueActed(x, 1, 1, 0);
        x.dial(1, 2);
        check.dueCall(x, 2, 1, 0, 0, 1, 4, -1, 0, 0);
    }

    /** Section 2, "or bit 2 is told and its TARGET is s": the line that sends on. */
    private static void shutOfTheSender() {
        WishLine x = Check.withLines(3);
        x.wish(2, Kind.SHUT, 0, 1, 5);
        x.wish(1, Kind.ONWARD, 0, 2, 0);
        x.dial(0, 1);
        check.dueCall(x, 0, 0, 3, 1, 2, 0, -1, 0, 2);
        x.dial(0, 2);
        check.dueCall(x, 1, 0, 0, 0, 1, 4, -1, 0, 0);
        x.down(0);
        x.dial(1, 2);
        check.dueCall(x, 2, 1, 3, 1, 1, 0, -1, 0, 1);
    }

    /** Section 2, "or bit 2 is told and its TARGET is s": not a line that sent it on before that. */
    private static void shutOfAnEarlierSender() {
        WishLine x = Check.withLines(4);
        x.wish(1, Kind.ONWARD, 0, 2, 0);
        x.wish(2, Kind.ONWARD, 0, 3, 0);
        x.wish(3, Kind.SHUT, 0, 1, 7);
        x.dial(0, 1);
        check.dueCall(x, 0, 0, 0, 0, 3, 8, -1, 0, 2);
    }

    /** Section 2, "or bit 2 is told and its TARGET is s": bit 2 is not told, whatever bits stand above it. */
    private static void shutWithoutBitTwo() {
        for (int number = 0; number < 32; number++) {
            WishLine x = Check.withLines(3);
            x.wish(1, Kind.ONWARD, 0, 2, 0);
            x.wish(2, Kind.SHUT, 0, 1, number);
            x.dial(0, 1);
            boolean isShut = number % 8 == 5 || number % 8 == 7;
            check.due("shut " + number + ", sent on", x.call(0, 2), isShut ? 1 : 0);
        }
    }

    /** Section 2, "and THE HOUR is as bits 0 and 1 tell": neither bit is told, so no hour is. */
    private static void shutWithoutHours() {
        WishLine x = Check.withLines(2);
        x.wish(1, Kind.SHUT, 0, 0, 4);
        x.wish(1, Kind.SHUT, 0, 0, 0);
        x.wish(1, Kind.SHUT, 0, 0, 28);
        for (int tick = 0; tick <= 24; tick++) {
            int call = x.dial(0, 1);
            check.due("reason at tick " + tick, x.call(call, 2), 0);
            x.down(0);
            x.tick();
        }
    }

    /** Section 2, "and THE HOUR is as bits 0 and 1 tell": the hour counts for the sender too. */
    private static void shutAtTheHourOnly() {
        WishLine x = Check.withLines(3);
        x.wish(1, Kind.ONWARD, 0, 2, 0);
        x.wish(2, Kind.SHUT, 0, 1, 6);
        for (int tick = 0; tick <= 24; tick++) {
            int call = x.dial(0, 1);
            check.due("reason at tick " + tick, x.call(call, 2), tick >= 12 && tick < 24 ? 1 : 0);
            x.down(0);
            x.tick();
        }
    }

    /**
     * Section 2, "ONWARD of NUMBER 0, or of 1 if t is not FREE or t is the CALLER: the CALL GOES to its TARGET,
     * coming from t.": not free as a caller, as one that rings, as one that speaks; free again.
     */
    private static void onwardIfNotFree() {
        WishLine x = Check.withLines(4);
        x.wish(1, Kind.ONWARD, 0, 2, 1);
        x.dial(0, 1);
        check.dueActed(x, 0);
        x.dial(3, 1);
        check.dueActed(x, 1, 0);
        check.duePieces(x, 1, 3, 1);
        x.down(3);
        x.take(1);
        x.dial(3, 1);
        check.dueActed(x, 2, 0);
        x.down(3);
        x.down(0);
        x.dial(1, 0);
        x.dial(3, 1);
        check.dueActed(x, 4, 0);
        x.down(3);
        x.down(1);
        x.dial(3, 1);
        check.dueActed(x, 5);
        check.dueCall(x, 5, 3, 0, 0, 1, 2, -1, 0, 0);
    }

    /** Section 2, "or of 1 if t is not FREE or t is the CALLER": a line that dials itself. */
    private static void onwardIfTheCaller() {
        WishLine x = Check.withLines(2);
        x.wish(0, Kind.ONWARD, 0, 1, 1);
        x.dial(0, 0);
        check.dueCall(x, 0, 0, 0, 0, 2, 2, -1, 0, 1);
        check.dueRow(x, 0, 0, 1);
        check.duePieces(x, 0, 0, 0);
    }

    /**
     * Section 2, "ONWARD of NUMBER 0, or of 1 if t is not FREE or t is the CALLER": 3 to 11 do not act when a call
     * goes.
     */
    private static void onwardsThatWaitDoNotActYet() {
        for (int number = 3; number <= 11; number++) {
            WishLine x = Check.withLines(4);
            x.wish(1, Kind.ONWARD, 0, 2, number);
            x.dial(0, 1);
            check.dueCall(x, 0, 0, 0, 0, 1, 2, -1, 0, 0);
            x.dial(3, 1);
            check.dueCall(x, 1, 3, 3, 3, 1, 0, -1, 0, 0);
        }
    }

    /**
     * Section 2, "WAITING, if t is not FREE, not the CALLER, and no CALL KNOCKS at it: the CALL KNOCKS at t.": at
     * a free line it does not act.
     */
    private static void waitingAtAFreeLine() {
        WishLine x = Check.withLines(3);
        x.wish(1, Kind.WAITING, 0, 0, 0);
        x.dial(0, 1);
        check.dueCall(x, 0, 0, 0, 0, 1, 2, -1, 0, 0);
        x.dial(2, 1);
        check.dueCall(x, 1, 2, 2, 0, 1, 0, 1, 0, 1);
        check.dueActed(x, 1, 0);
    }

    /** Section 2, "WAITING, if t is not FREE, not the CALLER": a line that dials itself does not wait. */
    private static void waitingAtTheCaller() {
        WishLine x = Check.withLines(2);
        x.wish(0, Kind.WAITING, 0, 0, 0);
        x.dial(0, 0);
        check.dueCall(x, 0, 0, 3, 3, 1, 0, -1, 0, 0);
        check.due("lineTold(0, 1)", x.lineTold(0, 1), -1);
    }

    /** Section 2, "and no CALL KNOCKS at it": the second one goes by the next wish, or ends. */
    private static void waitingOnlyOnce() {
        WishLine x = withBusyLines(6);
        x.wish(2, Kind.WAITING, 0, 0, 0);
        x.wish(2, Kind.WAITING, 1, 0, 0);
        x.dial(0, 2);
        check.dueCall(x, 1, 0, 2, 0, 1, 0, 2, 0, 1);
        x.dial(1, 2);
        check.dueCall(x, 2, 1, 3, 3, 1, 0, -1, 0, 0);
        x.wish(2, Kind.ONWARD, 5, 5, 1);
        x.dial(4, 2);
        check.dueCall(x, 3, 4, 0, 0, 2, 32, -1, 0, 1);
        check.due("lineTold(2, 1)", x.lineTold(2, 1), 1);
    }

    /** Section 2, "and no CALL KNOCKS at it": when the one that knocked is ended, another one knocks. */
    private static void waitingAgain() {
        WishLine x = withBusyLines(5);
        x.wish(2, Kind.WAITING, 0, 0, 0);
        x.dial(0, 2);
        x.down(0);
        check.due("lineTold(2, 1)", x.lineTold(2, 1), -1);
        x.dial(1, 2);
        check.dueCall(x, 2, 1, 2, 0, 1, 0, 2, 0, 1);
        check.due("lineTold(2, 1)", x.lineTold(2, 1), 2);
    }

    /**
     * Section 2, "the CALL KNOCKS at t.": a call that was sent on there; the caller of another call that rings
     * waits too.
     */
    private static void waitingSentOn() {
        WishLine x = Check.withLines(4);
        x.wish(1, Kind.ONWARD, 0, 2, 0);
        x.wish(2, Kind.WAITING, 0, 0, 0);
        x.dial(2, 3);
        x.dial(0, 1);
        check.dueCall(x, 1, 0, 2, 0, 2, 0, 2, 0, 2);
        check.dueActed(x, 1, 0, 1);
        check.duePieces(x, 1, 0, 1);
    }

    /**
     * Section 2, "If none ACTS: is t not FREE, or the CALLER, the CALL is ENDED, REASON 3;": a caller, one that
     * rings, one that speaks.
     */
    private static void busyEnds() {
        WishLine x = Check.withLines(3);
        x.dial(1, 2);
        x.dial(0, 1);
        check.dueCall(x, 1, 0, 3, 3, 1, 0, -1, 0, 0);
        x.dial(0, 2);
        check.dueCall(x, 2, 0, 3, 3, 1, 0, -1, 0, 0);
        x.take(2);
        x.dial(0, 2);
        check.dueCall(x, 3, 0, 3, 3, 1, 0, -1, 0, 0);
        check.due("lineTold(0, 0)", x.lineTold(0, 0), -1);
        check.due("lineTold(2, 0)", x.lineTold(2, 0), 0);
        check.duePieces(x, 3, 0);
    }

    /** Section 2, "is t not FREE, or the CALLER, the CALL is ENDED, REASON 3;": it does not ring at the caller. */
    private static void theCallersOwnLineEnds() {
        WishLine x = Check.withLines(1);
        x.dial(0, 0);
        check.dueCall(x, 0, 0, 3, 3, 1, 0, -1, 0, 0);
        check.due("lineTold(0, 3)", x.lineTold(0, 3), 0);
        check.due("lineTold(0, 0)", x.lineTold(0, 0), -1);
    }

    /**
     * Section 2, "and each BACK of the CALLER that is ON makes a WISH BACK to t (unless there is one of these two
     * LINES; 8 at most there are; if there is no room, none comes).": not another line's, not one that is not on.
     */
    private static void backsOfTheCaller() {
        WishLine x = withBusyLines(5);
        x.wish(1, Kind.BACK, 0, 4, 0);
        x.wish(2, Kind.BACK, 0, 4, 0);
        x.dial(0, 2);
        check.dueBacks(x);
        x.on(0, false);
        x.dial(1, 2);
        check.dueBacks(x);
        x.on(0, true);
        x.dial(1, 2);
        check.dueBacks(x, 1, 2);
        check.dueActed(x, 3);
    }

    /**
     * Section 2, "makes a WISH BACK to t": not by a call that is shut out, comes round, knocks, rings or is hung
     * up.
     */
    private static void backOnlyIfBusy() {
        WishLine x = withBusyLines(6);
        x.wish(0, Kind.BACK, 0, 0, 0);
        x.wish(1, Kind.SHUT, 0, 0, 1);
        x.wish(3, Kind.WAITING, 0, 0, 0);
        x.wish(4, Kind.ONWARD, 0, 4, 0);
        x.dial(0, 1);
        check.due("shut out", x.call(1, 2), 1);
        x.dial(0, 4);
        check.due("came round", x.call(2, 2), 2);
        x.dial(0, 3);
        check.due("knocks", x.call(3, 1), 2);
        x.down(0);
        x.dial(0, 5);
        check.due("rings", x.call(4, 1), 0);
        x.down(0);
        check.dueBacks(x);
    }

    /** Section 2, "makes a WISH BACK to t": to the line where it ended, not to the one that was dialled. */
    private static void backToTheLastLine() {
        WishLine x = withBusyLines(4);
        x.wish(0, Kind.BACK, 0, 0, 0);
        x.wish(1, Kind.ONWARD, 0, 2, 0);
        x.dial(0, 1);
        check.dueBacks(x, 0, 2);
    }

    /**
     * Section 2, "(unless there is one of these two LINES;": by two backs, by two calls; other lines have their
     * own.
     */
    private static void oneBackOfTwoLines() {
        WishLine x = withBusyLines(4);
        x.wish(0, Kind.BACK, 0, 0, 0);
        x.wish(0, Kind.BACK, 0, 1, 0);
        x.wish(1, Kind.BACK, 0, 0, 0);
        x.dial(0, 2);
        check.dueBacks(x, 0, 2);
        x.dial(0, 2);
        check.dueBacks(x, 0, 2);
        x.dial(0, 3);
        x.dial(1, 2);
        x.dial(0, 0);
        check.dueBacks(x, 0, 2, 0, 3, 1, 2, 0, 0);
        x.dial(0, 3);
        x.dial(0, 0);
        check.dueBacks(x, 0, 2, 0, 3, 1, 2, 0, 0);
    }

    /** Section 2, "(unless there is one of these two LINES;": one of the same lines the other way round is another one. */
    private static void backTheOtherWayRound() {
        WishLine x = Check.withLines(4);
        x.wish(0, Kind.BACK, 0, 0, 0);
        x.wish(1, Kind.BACK, 0, 0, 0);
        x.dial(1, 2);
        x.dial(0, 1);
        x.down(1);
        x.dial(0, 3);
        x.dial(1, 0);
        check.dueBacks(x, 0, 1, 1, 0);
        x.down(0);
        x.tick();
        check.dueCall(x, 4, 0, 0, 0, 1, 2, -1, 0, 0);
        check.dueBacks(x, 1, 0);
    }

    /** Section 2, "8 at most there are;": the eighth comes. */
    private static void eightBacks() {
        WishLine x = withBusyLines(8);
        int[] callers = {0, 1, 4, 5};
        for (int line : callers) {
            x.wish(line, Kind.BACK, 0, 0, 0);
        }
        for (int i = 0; i < 8; i++) {
            check.due("count(4)", x.count(4), i);
            x.dial(callers[i / 2], 2 + i % 2);
        }
        check.dueBacks(x, 0, 2, 0, 3, 1, 2, 1, 3, 4, 2, 4, 3, 5, 2, 5, 3);
    }

    /**
     * Section 2, "if there is no room, none comes).": the ninth does not come, the call ends as others; with room
     * again it comes.
     */
    private static void noRoomForABack() {
        WishLine x = withBusyLines(8);
        int[] callers = {0, 1, 4, 5};
        for (int i = 0; i < 8; i++) {
            if (i % 2 == 0) {
                x.wish(callers[i / 2], Kind.BACK, 0, 0, 0);
            }
            x.dial(callers[i / 2], 2 + i % 2);
        }
        x.wish(6, Kind.BACK, 0, 0, 0);
        check.done(x, "dial(6, 2)", x.dial(6, 2), 9);
        check.dueCall(x, 9, 6, 3, 3, 1, 0, -1, 0, 0);
        check.dueBacks(x, 0, 2, 0, 3, 1, 2, 1, 3, 4, 2, 4, 3, 5, 2, 5, 3);
        x.down(2);
        x.tick();
        check.dueBacks(x, 0, 3, 1, 2, 4, 2, 4, 3, 5, 2, 5, 3);
        x.dial(6, 2);
        check.dueBacks(x, 0, 3, 1, 2, 4, 2, 4, 3, 5, 2, 5, 3, 6, 2);
    }

    /**
     * Section 2, "Else it RINGS at t, and at the TARGETS of t's SHARED WISHES that are ON, if they are FREE and
     * not the CALLER;": one that is not free does not ring.
     */
    private static void sharedThatIsFree() {
        WishLine x = withBusyLines(6);
        x.wish(1, Kind.SHARED, 0, 2, 0);
        x.wish(1, Kind.SHARED, 0, 4, 0);
        x.wish(1, Kind.SHARED, 9, 5, 0);
        x.dial(0, 1);
        check.dueCall(x, 1, 0, 0, 0, 1, 2 + 16 + 32, -1, 0, 0);
        check.due("lineTold(2, 0)", x.lineTold(2, 0), 0);
        check.due("lineTold(4, 3)", x.lineTold(4, 3), 1);
        x.down(2);
        check.due("one that becomes free later", x.call(1, 4), 2 + 16 + 32);
    }

    /** Section 2, "if they are FREE and not the CALLER;": the caller does not ring in its own call. */
    private static void sharedThatIsTheCaller() {
        WishLine x = Check.withLines(3);
        x.wish(1, Kind.SHARED, 0, 0, 0);
        x.dial(0, 1);
        check.due("call(0, 4)", x.call(0, 4), 2);
        check.due("lineTold(0, 3)", x.lineTold(0, 3), 0);
        x.down(0);
        x.dial(2, 1);
        check.due("call(1, 4)", x.call(1, 4), 3);
    }

    /** Section 2, "the TARGETS of t's SHARED WISHES that are ON": as they are when it begins to ring. */
    private static void sharedThatIsNotOn() {
        WishLine x = Check.withLines(3);
        x.wish(1, Kind.SHARED, 0, 2, 0);
        x.on(0, false);
        x.dial(0, 1);
        check.due("not on", x.call(0, 4), 2);
        x.on(0, true);
        check.due("on, but it rings already", x.call(0, 4), 2);
        x.down(0);
        x.dial(0, 1);
        check.due("on", x.call(1, 4), 6);
        x.on(0, false);
        check.due("not on, but it rings already", x.call(1, 4), 6);
    }

    /**
     * Section 2, "at the TARGETS of t's SHARED WISHES": not of a target's own, nor of a line that sent it on; the
     * target's wishes do not act.
     */
    private static void sharedOfOthers() {
        WishLine x = Check.withLines(6);
        x.wish(1, Kind.ONWARD, 0, 2, 0);
        x.wish(1, Kind.SHARED, 0, 5, 0);
        x.wish(2, Kind.SHARED, 0, 3, 0);
        x.wish(3, Kind.SHARED, 0, 4, 0);
        x.wish(3, Kind.SHUT, 0, 0, 7);
        x.wish(3, Kind.ONWARD, 0, 4, 0);
        x.dial(0, 1);
        check.dueCall(x, 0, 0, 0, 0, 2, 12, -1, 0, 1);
        check.dueRow(x, 0, 1, 2);
    }

    /** Section 2, "Else it RINGS at t, and at the TARGETS of t's SHARED WISHES": of itself, and of one line twice. */
    private static void sharedWithItself() {
        WishLine x = Check.withLines(4);
        x.wish(1, Kind.SHARED, 0, 1, 0);
        x.wish(1, Kind.SHARED, 0, 2, 0);
        x.wish(1, Kind.SHARED, 0, 2, 0);
        x.dial(0, 1);
        check.due("call(0, 4)", x.call(0, 4), 6);
        x.take(2);
        check.due("lineTold(1, 0)", x.lineTold(1, 0), -1);
    }

    /** Section 2, "it has rung 0 TICKS.": also when it rings anew at the next line. */
    private static void rungNoTicks() {
        WishLine x = Check.withLines(3);
        x.wish(1, Kind.ONWARD, 0, 2, 5);
        x.dial(0, 1);
        check.due("call(0, 6)", x.call(0, 6), 0);
        x.tick();
        x.tick();
        check.due("call(0, 6)", x.call(0, 6), 2);
        x.tick();
        check.due("call(0, 4)", x.call(0, 4), 4);
        check.due("call(0, 6)", x.call(0, 6), 0);
    }

    /**
     * Wishes 2 i and 2 i + 1 of line i + 1 let a call wait and send it on; the call of line 0 goes by so many
     * lines.
     */
    private static WishLine sentOnBy(int lines) {
        WishLine x = Check.withLines(8);
        for (int i = 1; i <= 6; i++) {
            x.wish(i, Kind.WAITING, 0, 0, 0);
            x.wish(i, Kind.ONWARD, 0, i + 1, 3);
        }
        x.dial(1, 7);
        x.dial(0, 1);
        for (int i = 1; i <= lines; i++) {
            x.down(i);
            if (i < 6) {
                x.dial(i + 1, 7);
            }
            x.tick();
        }
        return x;
    }

    /**
     * Section 2, "The ACTS of a CALL: the WISHES that ACTED, in order (of 10 or more the first 10 are kept).":
     * nine, then ten.
     */
    private static void tenActs() {
        WishLine x = sentOnBy(4);
        check.dueCall(x, 1, 0, 2, 0, 5);
        check.dueActed(x, 1, 0, 1, 2, 3, 4, 5, 6, 7, 8);
        WishLine y = Check.withLines(8);
        for (int i = 1; i <= 5; i++) {
            y.wish(i, Kind.WAITING, 0, 0, 0);
            y.wish(i, Kind.ONWARD, 0, i + 1, 3);
        }
        y.dial(1, 7);
        y.dial(0, 1);
        for (int i = 1; i <= 5; i++) {
            y.down(i);
            if (i < 5) {
                y.dial(i + 1, 7);
            }
            y.tick();
        }
        check.dueCall(y, 1, 0, 0, 0, 6, 64);
        check.dueActed(y, 1, 0, 1, 2, 3, 4, 5, 6, 7, 8, 9);
    }

    /** Section 2, "(of 10 or more the first 10 are kept).": eleven and twelve acted, ten are told. */
    private static void elevenActs() {
        for (int lines = 5; lines <= 6; lines++) {
            WishLine x = sentOnBy(lines);
            check.due("call(1, 7)", x.call(1, 7), lines == 5 ? 11 : 12);
            for (int i = 0; i < 10; i++) {
                check.due("acted(1, " + i + ")", x.acted(1, i), i);
            }
            check.due("acted(1, 10)", x.acted(1, 10), -1);
            check.due("acted(1, 11)", x.acted(1, 11), -1);
            check.due("acted(1, 12)", x.acted(1, 12), -1);
        }
    }

    /**
     * Section 2, "At the end of each dial(), take(), down(), and in a TICK behind each CALL of (b) and each WISH
     * BACK of (c): for each LINE, by numbers, that is FREE and at which a CALL KNOCKS: that CALL RINGS at it (and
     * at no other one), having rung 0 TICKS.": behind down(), by either of the two.
     */
    private static void knockerRingsBehindDown() {
        for (int who = 2; who <= 3; who++) {
            WishLine x = withBusyLines(4);
            x.wish(2, Kind.WAITING, 0, 0, 0);
            x.dial(0, 2);
            x.tick();
            check.done(x, "down(" + who + ")", x.down(who), 0);
            check.dueCall(x, 1, 0, 0, 0, 1, 4, -1, 0, 1);
            check.due("lineTold(2, 0)", x.lineTold(2, 0), 1);
            check.due("lineTold(2, 1)", x.lineTold(2, 1), -1);
            check.due("lineTold(2, 3)", x.lineTold(2, 3), 1);
            check.done(x, "take(2)", x.take(2), 1);
        }
    }

    /**
     * Section 2, "for each LINE, by numbers, that is FREE and at which a CALL KNOCKS: that CALL RINGS at it": two
     * lines at once.
     */
    private static void knockersOfBothLines() {
        WishLine x = withBusyLines(4);
        x.wish(2, Kind.WAITING, 0, 0, 0);
        x.wish(3, Kind.WAITING, 0, 0, 0);
        x.dial(0, 3);
        x.dial(1, 2);
        x.down(2);
        check.dueCall(x, 1, 0, 0, 0, 1, 8, -1, 0, 1);
        check.dueCall(x, 2, 1, 0, 0, 1, 4, -1, 0, 1);
        check.due("count(5)", x.count(5), 2);
    }

    /** Section 2, "for each LINE, by numbers, that is FREE": line 0 and line 7. */
    private static void knockersOfTheFirstAndTheLastLine() {
        WishLine x = Check.withLines(8);
        x.wish(0, Kind.WAITING, 0, 0, 0);
        x.wish(7, Kind.WAITING, 0, 0, 0);
        x.dial(0, 7);
        x.take(7);
        x.dial(1, 7);
        x.dial(2, 0);
        check.due("lineTold(0, 1)", x.lineTold(0, 1), 2);
        check.due("lineTold(7, 1)", x.lineTold(7, 1), 1);
        x.down(7);
        check.dueCall(x, 1, 1, 0, 0, 1, 128, -1, 0, 1);
        check.dueCall(x, 2, 2, 0, 0, 1, 1, -1, 0, 1);
    }

    /** Section 2, "At the end of each dial(), take(), down()": behind take(), at a line that shared the ringing. */
    private static void knockerRingsBehindTake() {
        WishLine x = Check.withLines(4);
        x.wish(1, Kind.SHARED, 0, 2, 0);
        x.wish(2, Kind.WAITING, 0, 0, 0);
        x.dial(0, 1);
        x.dial(3, 2);
        check.dueCall(x, 1, 3, 2, 0, 1, 0, 2, 0, 1);
        x.take(1);
        check.dueCall(x, 1, 3, 0, 0, 1, 4, -1, 0, 1);
        check.due("lineTold(2, 0)", x.lineTold(2, 0), 1);
    }

    /** Section 2, "(and at no other one), having rung 0 TICKS.": not at those with which the line shares. */
    private static void knockerRingsAtNoOther() {
        WishLine x = withBusyLines(6);
        x.wish(2, Kind.WAITING, 0, 0, 0);
        x.wish(2, Kind.SHARED, 0, 5, 0);
        x.dial(0, 2);
        x.tick();
        x.down(2);
        check.dueCall(x, 1, 0, 0, 0, 1, 4, -1, 0, 1);
        check.due("lineTold(5, 0)", x.lineTold(5, 0), -1);
        x.tick();
        check.due("call(1, 6)", x.call(1, 6), 1);
    }

    /**
     * Section 2, "that is FREE and at which a CALL KNOCKS": while the line is not free it knocks on, whatever
     * others do.
     */
    private static void knockerWaitsOn() {
        WishLine x = withBusyLines(6);
        x.wish(2, Kind.WAITING, 0, 0, 0);
        x.dial(0, 2);
        x.dial(4, 5);
        check.due("behind dial()", x.call(1, 1), 2);
        x.take(5);
        check.due("behind take()", x.call(1, 1), 2);
        x.down(4);
        check.due("behind down()", x.call(1, 1), 2);
        x.tick();
        check.dueCall(x, 1, 0, 2, 0, 1, 0, 2, 0, 1);
    }

    /**
     * Section 2, "A CALL TELLS its CALLER to a LINE where it rings or KNOCKS, unless the CALLER has a HIDDEN that
     * is ON and has another TARGET than that LINE.": where it rings, and nowhere else.
     */
    private static void tellsWhereItRings() {
        WishLine x = Check.withLines(5);
        x.wish(1, Kind.ONWARD, 0, 2, 0);
        x.wish(2, Kind.SHARED, 0, 3, 0);
        x.dial(0, 1);
        int[] want = {0, 0, 1, 1, 0};
        for (int line = 0; line < 5; line++) {
            check.due("tells(0, " + line + ")", x.tells(0, line), want[line]);
        }
    }

    /**
     * Section 2, "to a LINE where it rings or KNOCKS": where it knocks; the call in which that line is tells it
     * nothing.
     */
    private static void tellsWhereItKnocks() {
        WishLine x = withBusyLines(4);
        x.wish(3, Kind.WAITING, 0, 0, 0);
        x.dial(0, 3);
        check.due("tells(1, 3)", x.tells(1, 3), 1);
        check.due("tells(1, 2)", x.tells(1, 2), 0);
        check.due("tells(1, 0)", x.tells(1, 0), 0);
        check.due("tells(0, 3)", x.tells(0, 3), 0);
        x.wish(0, Kind.HIDDEN, 0, 2, 0);
        check.due("hidden: tells(1, 3)", x.tells(1, 3), 0);
    }

    /** Section 2, "and has another TARGET than that LINE.": to its target a hidden line is told. */
    private static void hiddenButToItsTarget() {
        WishLine x = Check.withLines(3);
        x.wish(1, Kind.SHARED, 0, 2, 0);
        x.wish(0, Kind.HIDDEN, 0, 2, 0);
        x.dial(0, 1);
        check.due("tells(0, 1)", x.tells(0, 1), 0);
        check.due("tells(0, 2)", x.tells(0, 2), 1);
    }

    /** Section 2, "unless the CALLER has a HIDDEN that is ON and has another TARGET": of two, one is enough. */
    private static void hiddenTwice() {
        WishLine x = Check.withLines(3);
        x.wish(0, Kind.HIDDEN, 0, 1, 0);
        x.dial(0, 1);
        check.due("tells(0, 1)", x.tells(0, 1), 1);
        x.wish(0, Kind.HIDDEN, 9, 2, 0);
        check.due("tells(0, 1)", x.tells(0, 1), 0);
        x.on(1, false);
        check.due("tells(0, 1)", x.tells(0, 1), 1);
    }

    /** Section 2, "unless the CALLER has a HIDDEN that is ON": one that is not on hides no one, nor does a SHUT. */
    private static void hiddenThatIsNotOn() {
        WishLine x = Check.withLines(3);
        x.wish(0, Kind.HIDDEN, 0, 2, 0);
        x.wish(0, Kind.SHUT, 0, 2, 0);
        x.dial(0, 1);
        check.due("tells(0, 1)", x.tells(0, 1), 0);
        x.on(0, false);
        check.due("tells(0, 1)", x.tells(0, 1), 1);
    }

    /**
     * Section 2, "unless the CALLER has a HIDDEN that is ON": of the line that rings or sends on it does not
     * matter.
     */
    private static void hiddenOfAnother() {
        WishLine x = Check.withLines(4);
        x.wish(1, Kind.HIDDEN, 0, 3, 0);
        x.wish(2, Kind.HIDDEN, 0, 3, 0);
        x.wish(1, Kind.ONWARD, 0, 2, 0);
        x.dial(0, 1);
        check.due("tells(0, 2)", x.tells(0, 2), 1);
    }
}
