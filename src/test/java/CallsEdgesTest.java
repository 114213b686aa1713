/** Calls at their edges: the terms of calls, and promises 6 to 8 and 13 to 18. */
public final class CallsEdgesTest {
    private static final Check check = new Check();
    private static final int MAX = Integer.MAX_VALUE;
    private static final int MIN = Integer.MIN_VALUE;

    public static void main(String[] args) {
        sixtyCalls();
        statesOfACall();
        reasonAtFirst();
        inACall();
        knockedAtIsNotIn();
        inNoneBehindItsEnd();
        freeLinesDial();
        inOneAtMost();
        dialItself();
        dialOfNoLine();
        dialWithoutRoom();
        dialOfOneThatIsNotFree();
        dialWhereSeveralHold();
        takeByTheOnlyOne();
        takeByOneOfMany();
        takeOfNoLine();
        takeWhereNoneRings();
        downOfTheCaller();
        downOfTheOneThatTook();
        downOfNoLine();
        downWhereThereIsNone();
        lineInACall();
        lineThatPays();
        lineThatRings();
        callThatRings();
        callThatSpeaks();
        callThatKnocks();
        callThatEnded();
        callHasRung();
        callOfNoNumber();
        rowOutside();
        pieceOutside();
        actedOutside();
        tellsNow();
        tellsOutside();
        check.end();
    }

    /** Line 1 has taken a call of line 0; a call of line 2 knocks at line 1. */
    private static WishLine knocking() {
        WishLine x = Check.withLines(4);
        x.wish(1, Kind.WAITING, 0, 0, 0);
        x.dial(0, 1);
        x.take(1);
        x.dial(2, 1);
        return x;
    }

    /** Terms, "CALLS (60 at most, numbered from 0) have a CALLER (a LINE)": ended ones keep their room. */
    private static void sixtyCalls() {
        WishLine x = Check.withLines(2);
        for (int i = 0; i < 60; i++) {
            check.due("count(2)", x.count(2), i);
            check.done(x, "dial()", x.dial(i % 2, i % 2), i);
            check.due("call(" + i + ", 0)", x.call(i, 0), i % 2);
        }
        check.refused(x, "the 61st dial()", x.dial(0, 1), 2);
        check.due("count(2)", x.count(2), 60);
        check.due("count(5)", x.count(5), 0);
        check.due("call(60, 0)", x.call(60, 0), -1);
        check.due("lineTold(0, 0)", x.lineTold(0, 0), -1);
    }

    /**
     * Terms, "a STATE: 0 RINGS, 1 SPEAKS, 2 KNOCKS, 3 ENDED; a ROW of LINES to which it went; PIECES, each with a
     * LINE that pays it;"
     */
    private static void statesOfACall() {
        WishLine x = Check.withLines(3);
        x.wish(1, Kind.WAITING, 0, 0, 0);
        x.dial(0, 1);
        check.due("it rings", x.call(0, 1), 0);
        x.take(1);
        check.due("it speaks", x.call(0, 1), 1);
        x.dial(2, 1);
        check.due("it knocks", x.call(1, 1), 2);
        x.down(0);
        check.due("it is ended", x.call(0, 1), 3);
        check.due("the other one rings", x.call(1, 1), 0);
        check.dueRow(x, 0, 1);
        check.duePieces(x, 0, 0);
        check.dueRow(x, 1, 1);
        check.duePieces(x, 1, 2);
    }

    /** Terms, "a REASON (0 at first).": it stays 0 until the call is ended. */
    private static void reasonAtFirst() {
        WishLine x = knocking();
        check.due("of one that speaks", x.call(0, 2), 0);
        check.due("of one that knocks", x.call(1, 2), 0);
        x.down(1);
        check.due("of one that is ended", x.call(0, 2), 4);
        check.due("of one that rings", x.call(1, 2), 0);
    }

    /**
     * Terms, "A LINE is IN a CALL that is not ENDED if it is its CALLER, or it RINGS there, or it SPEAKS
     * there as the one that took it;": a line that only shared the ringing is in it no more.
     */
    private static void inACall() {
        WishLine x = Check.withLines(4);
        x.wish(1, Kind.SHARED, 0, 2, 0);
        x.dial(0, 1);
        int[] whileItRings = {0, 0, 0, -1};
        for (int line = 0; line < 4; line++) {
            check.due("rings: lineTold(" + line + ", 0)", x.lineTold(line, 0), whileItRings[line]);
        }
        x.take(2);
        int[] whileItSpeaks = {0, -1, 0, -1};
        for (int line = 0; line < 4; line++) {
            check.due("speaks: lineTold(" + line + ", 0)", x.lineTold(line, 0), whileItSpeaks[line]);
        }
    }

    /** Terms, "a LINE at which a CALL KNOCKS is not IN that.": it is in the other one, its caller is in this one. */
    private static void knockedAtIsNotIn() {
        WishLine x = knocking();
        check.due("lineTold(1, 0)", x.lineTold(1, 0), 0);
        check.due("lineTold(1, 1)", x.lineTold(1, 1), 1);
        check.due("lineTold(2, 0)", x.lineTold(2, 0), 1);
        check.refused(x, "take(1)", x.take(1), 3);
        check.done(x, "down(1) ends its own call", x.down(1), 0);
    }

    /** Terms, "A LINE is IN a CALL that is not ENDED": by whatever reason it ended, no line is in it. */
    private static void inNoneBehindItsEnd() {
        WishLine x = Check.withLines(3);
        x.wish(1, Kind.SHUT, 0, 0, 3);
        x.wish(2, Kind.ONWARD, 0, 0, 0);
        x.dial(0, 1);
        check.due("shut out", x.call(0, 2), 1);
        check.due("lineTold(0, 0)", x.lineTold(0, 0), -1);
        x.dial(0, 2);
        check.due("came round", x.call(1, 2), 2);
        check.due("lineTold(0, 0)", x.lineTold(0, 0), -1);
        x.dial(0, 0);
        check.due("busy", x.call(2, 2), 3);
        check.due("lineTold(0, 0)", x.lineTold(0, 0), -1);
        x.dial(2, 1);
        x.down(2);
        check.due("hung up", x.call(3, 2), 4);
        check.due("lineTold(1, 0)", x.lineTold(1, 0), -1);
        check.due("lineTold(2, 0)", x.lineTold(2, 0), -1);
    }

    /** Terms, "A LINE that is IN none is FREE.": it can dial, and a call rings there. */
    private static void freeLinesDial() {
        WishLine x = Check.withLines(2);
        x.dial(0, 1);
        x.take(1);
        x.down(1);
        check.done(x, "dial(1, 0)", x.dial(1, 0), 1);
        check.dueCall(x, 1, 1, 0, 0, 1, 1);
        x.down(1);
        check.done(x, "dial(0, 1)", x.dial(0, 1), 2);
        check.dueCall(x, 2, 0, 0, 0, 1, 2);
    }

    /** Terms, "(It is IN one at most.)": a line that rings for one call does not share another one's ringing. */
    private static void inOneAtMost() {
        WishLine x = Check.withLines(5);
        x.wish(1, Kind.SHARED, 0, 3, 0);
        x.wish(2, Kind.SHARED, 0, 3, 0);
        x.dial(0, 1);
        x.dial(4, 2);
        check.dueCall(x, 0, 0, 0, 0, 1, 10);
        check.dueCall(x, 1, 4, 0, 0, 1, 4);
        check.due("lineTold(3, 0)", x.lineTold(3, 0), 0);
        x.take(1);
        check.due("lineTold(3, 0)", x.lineTold(3, 0), -1);
        check.dueCall(x, 1, 4, 0, 0, 1, 4);
    }

    /** Promise 6, dial: "A LINE DIALS another one (or itself): a CALL that GOES there: its number." */
    private static void dialItself() {
        WishLine x = Check.withLines(2);
        check.done(x, "dial(1, 1)", x.dial(1, 1), 0);
        check.dueCall(x, 0, 1, 3, 3, 1, 0, -1, 0, 0);
        check.dueRow(x, 0, 1);
        check.duePieces(x, 0, 1);
        check.done(x, "dial(1, 0)", x.dial(1, 0), 1);
        check.dueCall(x, 1, 1, 0, 0, 1, 1, -1, 0, 0);
    }

    /** Promise 6, dial: "STATUS 1, 2, 3 (it is not FREE).": 1, one of the two is no line. */
    private static void dialOfNoLine() {
        WishLine x = Check.withLines(2);
        int[] none = {-1, 2, 7, 8, MAX, MIN};
        for (int line : none) {
            check.refused(x, "dial(" + line + ", 0)", x.dial(line, 0), 1);
            check.refused(x, "dial(0, " + line + ")", x.dial(0, line), 1);
            check.refused(x, "dial(" + line + ", " + line + ")", x.dial(line, line), 1);
        }
        check.due("count(2)", x.count(2), 0);
    }

    /** Promise 6, dial: "STATUS 1, 2, 3 (it is not FREE).": 2, the 61st call. */
    private static void dialWithoutRoom() {
        WishLine x = Check.withLines(2);
        for (int i = 0; i < 59; i++) {
            x.dial(0, 0);
        }
        check.done(x, "the 60th dial()", x.dial(0, 1), 59);
        check.done(x, "take(1)", x.take(1), 59);
        check.done(x, "down(1)", x.down(1), 59);
        check.refused(x, "the 61st dial()", x.dial(0, 1), 2);
        check.refused(x, "the 61st dial(), to itself", x.dial(0, 0), 2);
        check.due("count(2)", x.count(2), 60);
    }

    /**
     * Promise 6, dial: "STATUS 1, 2, 3 (it is not FREE).": 3, a caller, one that rings, one that speaks, one whose
     * call knocks.
     */
    private static void dialOfOneThatIsNotFree() {
        WishLine x = Check.withLines(4);
        x.wish(1, Kind.WAITING, 0, 0, 0);
        x.dial(0, 1);
        check.refused(x, "a caller", x.dial(0, 3), 3);
        check.refused(x, "a caller, to itself", x.dial(0, 0), 3);
        check.refused(x, "one that rings", x.dial(1, 3), 3);
        x.take(1);
        check.refused(x, "a caller that speaks", x.dial(0, 3), 3);
        check.refused(x, "one that speaks", x.dial(1, 3), 3);
        x.dial(2, 1);
        check.refused(x, "one whose call knocks", x.dial(2, 3), 3);
        check.refused(x, "one at which a call knocks", x.dial(1, 3), 3);
        check.due("count(2)", x.count(2), 2);
    }

    /** Terms, "Where several hold, the lowest.": of a dial. */
    private static void dialWhereSeveralHold() {
        WishLine x = Check.withLines(2);
        x.dial(0, 1);
        check.refused(x, "no such line, not free", x.dial(0, 2), 1);
        x.down(0);
        for (int i = 1; i < 59; i++) {
            x.dial(0, 0);
        }
        x.dial(0, 1);
        check.refused(x, "no room, not free", x.dial(0, 1), 2);
        check.refused(x, "no such line, no room, not free", x.dial(0, 2), 1);
        check.refused(x, "no such line, no room", x.dial(2, 0), 1);
    }

    /** Promise 7, take: "A LINE takes the CALL that RINGS there: it SPEAKS" */
    private static void takeByTheOnlyOne() {
        WishLine x = Check.withLines(2);
        x.dial(0, 1);
        check.done(x, "take(1)", x.take(1), 0);
        check.dueCall(x, 0, 0, 1, 0, 1, 0, 1, 0, 0);
        check.due("lineTold(1, 3)", x.lineTold(1, 3), 0);
        check.due("lineTold(1, 0)", x.lineTold(1, 0), 0);
    }

    /** Promise 7, take: "no other LINE rings in it any more: the CALL.": any of those that ring can take it. */
    private static void takeByOneOfMany() {
        for (int taker = 1; taker < 8; taker++) {
            WishLine x = Check.withLines(8);
            for (int i = 2; i < 8; i++) {
                x.wish(1, Kind.SHARED, 0, i, 0);
            }
            x.dial(0, 1);
            check.due("call(0, 4)", x.call(0, 4), 254);
            check.done(x, "take(" + taker + ")", x.take(taker), 0);
            check.dueCall(x, 0, 0, 1, 0, 1, 0, taker, 0, 0);
            check.dueRow(x, 0, 1);
            for (int line = 1; line < 8; line++) {
                check.due("lineTold(" + line + ", 0)", x.lineTold(line, 0), line == taker ? 0 : -1);
                check.due("lineTold(" + line + ", 3)", x.lineTold(line, 3), 0);
            }
        }
    }

    /** Promise 7, take: "STATUS 1, 3 (none rings there).": 1, no such line. */
    private static void takeOfNoLine() {
        WishLine x = Check.withLines(2);
        x.dial(0, 1);
        int[] none = {-1, 2, 7, 8, MAX, MIN};
        for (int line : none) {
            check.refused(x, "take(" + line + ")", x.take(line), 1);
        }
        check.due("call(0, 1)", x.call(0, 1), 0);
    }

    /**
     * Promise 7, take: "STATUS 1, 3 (none rings there).": 3, a free line, a caller, one that speaks, one at which
     * a call knocks.
     */
    private static void takeWhereNoneRings() {
        WishLine x = Check.withLines(4);
        x.wish(1, Kind.WAITING, 0, 0, 0);
        check.refused(x, "a free line", x.take(1), 3);
        x.dial(0, 1);
        check.refused(x, "the caller", x.take(0), 3);
        x.take(1);
        check.refused(x, "one that took it", x.take(1), 3);
        x.dial(2, 1);
        check.refused(x, "one at which a call knocks", x.take(1), 3);
        check.refused(x, "one whose call knocks", x.take(2), 3);
        check.refused(x, "a free line", x.take(3), 3);
        check.due("call(0, 1)", x.call(0, 1), 1);
        check.due("call(1, 1)", x.call(1, 1), 2);
    }

    /**
     * Promise 8, down: "A LINE hangs up: the CALL in which it is as the CALLER, or SPEAKS, is ENDED, REASON 4:
     * the CALL.": by the caller while it rings, knocks and speaks.
     */
    private static void downOfTheCaller() {
        WishLine x = Check.withLines(3);
        x.wish(1, Kind.WAITING, 0, 0, 0);
        x.wish(1, Kind.SHARED, 0, 2, 0);
        x.dial(0, 1);
        check.done(x, "down(0) while it rings", x.down(0), 0);
        check.dueCall(x, 0, 0, 3, 4, 1, 0, -1, 0, 0);
        check.due("lineTold(1, 0)", x.lineTold(1, 0), -1);
        check.due("lineTold(2, 0)", x.lineTold(2, 0), -1);
        x.dial(1, 1);
        x.dial(1, 0);
        x.dial(2, 1);
        check.done(x, "down(2) while it knocks", x.down(2), 3);
        check.dueCall(x, 3, 2, 3, 4, 1, 0, -1, 0, 1);
        check.due("lineTold(1, 1)", x.lineTold(1, 1), -1);
        check.due("lineTold(2, 0)", x.lineTold(2, 0), -1);
        x.take(0);
        check.done(x, "down(1) while it speaks", x.down(1), 2);
        check.dueCall(x, 2, 1, 3, 4, 1, 0, -1, 0, 0);
        check.due("lineTold(0, 0)", x.lineTold(0, 0), -1);
    }

    /**
     * Promise 8, down: "the CALL in which it is as the CALLER, or SPEAKS, is ENDED, REASON 4": by the one that
     * took it, which may stand in no row.
     */
    private static void downOfTheOneThatTook() {
        WishLine x = Check.withLines(3);
        x.wish(1, Kind.SHARED, 0, 2, 0);
        x.dial(0, 1);
        x.take(2);
        check.done(x, "down(2)", x.down(2), 0);
        check.dueCall(x, 0, 0, 3, 4, 1, 0, -1, 0, 0);
        check.due("lineTold(0, 0)", x.lineTold(0, 0), -1);
        check.due("lineTold(2, 0)", x.lineTold(2, 0), -1);
    }

    /** Promise 8, down: "STATUS 1, 3 (there is none such).": 1, no such line. */
    private static void downOfNoLine() {
        WishLine x = Check.withLines(2);
        x.dial(0, 1);
        int[] none = {-1, 2, 7, 8, MAX, MIN};
        for (int line : none) {
            check.refused(x, "down(" + line + ")", x.down(line), 1);
        }
        check.due("call(0, 1)", x.call(0, 1), 0);
    }

    /** Promise 8, down: "STATUS 1, 3 (there is none such).": 3, a free line, one that rings, one that hung up. */
    private static void downWhereThereIsNone() {
        WishLine x = Check.withLines(4);
        x.wish(1, Kind.SHARED, 0, 2, 0);
        check.refused(x, "a free line", x.down(0), 3);
        x.dial(0, 1);
        check.refused(x, "one that rings", x.down(1), 3);
        check.refused(x, "one that shares the ringing", x.down(2), 3);
        x.take(1);
        check.refused(x, "one that shared the ringing", x.down(2), 3);
        check.due("call(0, 1)", x.call(0, 1), 1);
        x.down(0);
        check.refused(x, "the caller again", x.down(0), 3);
        check.refused(x, "the other one", x.down(1), 3);
    }

    /**
     * Promise 13, lineTold: "0 the CALL in which it is (NONE), 1 the CALL that KNOCKS at it (NONE)": none, call 0,
     * the last call.
     */
    private static void lineInACall() {
        WishLine x = knocking();
        check.due("lineTold(1, 0)", x.lineTold(1, 0), 0);
        check.due("lineTold(0, 1)", x.lineTold(0, 1), -1);
        check.due("lineTold(2, 1)", x.lineTold(2, 1), -1);
        check.due("lineTold(3, 0)", x.lineTold(3, 0), -1);
        x.down(2);
        check.due("lineTold(1, 1)", x.lineTold(1, 1), -1);
        check.due("lineTold(2, 0)", x.lineTold(2, 0), -1);
        for (int i = 2; i < 59; i++) {
            x.dial(3, 3);
        }
        check.due("the 60th dial()", x.dial(3, 1), 59);
        check.due("lineTold(3, 0)", x.lineTold(3, 0), 59);
        check.due("lineTold(1, 1)", x.lineTold(1, 1), 59);
    }

    /**
     * Promise 13, lineTold: "2 what it has to pay in all": of all its calls, ended ones too, and it never gets
     * less.
     */
    private static void lineThatPays() {
        WishLine x = Check.withLines(3);
        x.dial(0, 1);
        x.tick();
        check.due("while it rings", x.lineTold(0, 2), 0);
        x.take(1);
        x.tick();
        check.due("behind one tick", x.lineTold(0, 2), 1);
        x.down(0);
        x.tick();
        check.due("ended", x.lineTold(0, 2), 1);
        x.dial(0, 2);
        x.take(2);
        x.tick();
        x.tick();
        check.due("of two calls", x.lineTold(0, 2), 3);
        check.due("of the others", x.lineTold(1, 2) + x.lineTold(2, 2), 0);
    }

    /** Promise 13, lineTold: "3 whether it rings": not the caller, not one that speaks or at which a call knocks. */
    private static void lineThatRings() {
        WishLine x = knocking();
        for (int line = 0; line < 4; line++) {
            check.due("lineTold(" + line + ", 3)", x.lineTold(line, 3), 0);
        }
        x.down(0);
        check.due("lineTold(1, 3)", x.lineTold(1, 3), 1);
        check.due("lineTold(2, 3)", x.lineTold(2, 3), 0);
        x.down(2);
        check.due("lineTold(1, 3)", x.lineTold(1, 3), 0);
    }

    /**
     * Promise 14, call: "Of a CALL: 0 CALLER, 1 STATE, 2 REASON, 3 LINES of its ROW, 4 LINES where it rings, as
     * bits,": the first and the last line, all eight in one row.
     */
    private static void callThatRings() {
        WishLine x = Check.withLines(8);
        for (int i = 1; i < 7; i++) {
            x.wish(i, Kind.ONWARD, 0, i + 1, 0);
        }
        x.wish(0, Kind.ONWARD, 0, 1, 1);
        x.dial(0, 0);
        check.dueCall(x, 0, 0, 0, 0, 8, 128, -1, 0, 7);
        x.down(0);
        x.dial(7, 0);
        check.dueCall(x, 1, 7, 0, 0, 1, 1, -1, 0, 0);
    }

    /**
     * Promise 14, call: "5 the LINE that took it, or at which it KNOCKS (NONE; of an ENDED one NONE, too, and 4 is
     * 0)": taken by line 0 and by line 7.
     */
    private static void callThatSpeaks() {
        WishLine x = Check.withLines(8);
        x.dial(7, 0);
        check.due("while it rings", x.call(0, 5), -1);
        x.take(0);
        check.dueCall(x, 0, 7, 1, 0, 1, 0, 0, 0, 0);
        x.down(7);
        x.dial(0, 7);
        x.take(7);
        check.dueCall(x, 1, 0, 1, 0, 1, 0, 7, 0, 0);
    }

    /**
     * Promise 14, call: "5 the LINE that took it, or at which it KNOCKS": the last line of its row, not the one
     * that was dialled.
     */
    private static void callThatKnocks() {
        WishLine x = Check.withLines(5);
        x.wish(1, Kind.ONWARD, 0, 2, 0);
        x.wish(2, Kind.WAITING, 0, 0, 0);
        x.dial(2, 3);
        x.dial(0, 1);
        check.dueCall(x, 1, 0, 2, 0, 2, 0, 2, 0, 2);
        check.due("lineTold(2, 1)", x.lineTold(2, 1), 1);
        check.due("lineTold(1, 1)", x.lineTold(1, 1), -1);
    }

    /** Promise 14, call: "of an ENDED one NONE, too, and 4 is 0": one that rang, spoke, knocked, or never rang. */
    private static void callThatEnded() {
        WishLine x = knocking();
        x.down(2);
        check.dueCall(x, 1, 2, 3, 4, 1, 0, -1, 0, 1);
        x.down(1);
        check.dueCall(x, 0, 0, 3, 4, 1, 0, -1, 0, 0);
        x.dial(3, 1);
        x.down(3);
        check.dueCall(x, 2, 3, 3, 4, 1, 0, -1, 0, 0);
        x.dial(3, 3);
        check.dueCall(x, 3, 3, 3, 3, 1, 0, -1, 0, 0);
    }

    /**
     * Promise 14, call: "6 how long it has rung (as told last), 7 how many WISHES ACTED.": above nine ticks, and
     * the same when it speaks and is ended.
     */
    private static void callHasRung() {
        WishLine x = Check.withLines(2);
        x.dial(0, 1);
        for (int tick = 1; tick <= 30; tick++) {
            x.tick();
            check.due("call(0, 6)", x.call(0, 6), tick);
        }
        x.take(1);
        x.tick();
        check.due("it speaks: call(0, 6)", x.call(0, 6), 30);
        x.down(0);
        x.tick();
        check.due("it is ended: call(0, 6)", x.call(0, 6), 30);
        check.due("call(0, 7)", x.call(0, 7), 0);
    }

    /** Promise 14, call: "-1 also: no such.": of a call, and of a what, that is none. */
    private static void callOfNoNumber() {
        WishLine x = Check.withLines(2);
        x.dial(0, 1);
        int[] none = {-1, 1, 59, 60, MAX, MIN};
        for (int call : none) {
            for (int what = 0; what < 8; what++) {
                check.due("call(" + call + ", " + what + ")", x.call(call, what), -1);
            }
        }
        int[] nothing = {-1, 8, MAX, MIN};
        for (int what : nothing) {
            check.due("call(0, " + what + ")", x.call(0, what), -1);
        }
    }

    /** Promise 15, row: "LINE i of a CALL's ROW. -1: none such.": the first, the eighth, and those outside. */
    private static void rowOutside() {
        WishLine x = Check.withLines(8);
        for (int i = 0; i < 7; i++) {
            x.wish(i, Kind.ONWARD, 0, i + 1, i == 0 ? 1 : 0);
        }
        x.dial(0, 0);
        check.dueRow(x, 0, 0, 1, 2, 3, 4, 5, 6, 7);
        int[] none = {-1, 8, 9, 16, 31, 32, MAX, MIN};
        for (int i : none) {
            check.due("row(0, " + i + ")", x.row(0, i), -1);
        }
        int[] noCall = {-1, 1, 60, MAX, MIN};
        for (int call : noCall) {
            check.due("row(" + call + ", 0)", x.row(call, 0), -1);
        }
    }

    /**
     * Promise 16, piece: "The payer of PIECE i of a CALL. -1: none such.": the first, the eighth, and those
     * outside.
     */
    private static void pieceOutside() {
        WishLine x = Check.withLines(8);
        for (int i = 0; i < 7; i++) {
            x.wish(i, Kind.ONWARD, 0, i + 1, i == 0 ? 1 : 0);
        }
        x.dial(0, 0);
        check.duePieces(x, 0, 0, 0, 1, 2, 3, 4, 5, 6);
        int[] none = {-1, 8, 9, 16, 31, 32, MAX, MIN};
        for (int i : none) {
            check.due("piece(0, " + i + ")", x.piece(0, i), -1);
        }
        int[] noCall = {-1, 1, 60, MAX, MIN};
        for (int call : noCall) {
            check.due("piece(" + call + ", 0)", x.piece(call, 0), -1);
        }
    }

    /**
     * Promise 17, acted: "WISH i of those that ACTED for a CALL. -1: none such, or it is not kept.": the last
     * wish, none, and those outside.
     */
    private static void actedOutside() {
        WishLine x = Check.withLines(4);
        for (int i = 0; i < 23; i++) {
            x.wish(3, 0, 0, 0, 0);
        }
        x.wish(1, Kind.ONWARD, 0, 2, 0);
        x.dial(0, 1);
        check.dueActed(x, 0, 23);
        x.dial(3, 1);
        check.dueActed(x, 1, 23);
        x.dial(3, 3);
        check.dueActed(x, 2);
        int[] none = {-1, 1, 9, 10, 12, 64, MAX, MIN};
        for (int i : none) {
            check.due("acted(0, " + i + ")", x.acted(0, i), -1);
        }
        int[] noCall = {-1, 3, 60, MAX, MIN};
        for (int call : noCall) {
            check.due("acted(" + call + ", 0)", x.acted(call, 0), -1);
        }
    }

    /**
     * Promise 18, tells: "Whether a CALL TELLS its CALLER to a LINE now: 1, 0.": not before, not behind the
     * ringing.
     */
    private static void tellsNow() {
        WishLine x = Check.withLines(3);
        x.wish(1, Kind.ONWARD, 0, 2, 3);
        x.dial(0, 1);
        check.due("rings at 1: tells(0, 1)", x.tells(0, 1), 1);
        check.due("rings at 1: tells(0, 2)", x.tells(0, 2), 0);
        check.due("rings at 1: tells(0, 0)", x.tells(0, 0), 0);
        x.tick();
        check.due("rings at 2: tells(0, 1)", x.tells(0, 1), 0);
        check.due("rings at 2: tells(0, 2)", x.tells(0, 2), 1);
        x.take(2);
        check.due("speaks: tells(0, 2)", x.tells(0, 2), 0);
        check.due("speaks: tells(0, 0)", x.tells(0, 0), 0);
        x.down(2);
        check.due("ended: tells(0, 2)", x.tells(0, 2), 0);
    }

    /**
     * Promise 18, tells: "Whether a CALL TELLS its CALLER to a LINE now: 1, 0. -1: no such.": no such call or
     * line.
     */
    private static void tellsOutside() {
        WishLine x = Check.withLines(2);
        x.dial(0, 1);
        int[] noLine = {-1, 2, 7, 8, 31, 32, 33, MAX, MIN};
        for (int line : noLine) {
            check.due("tells(0, " + line + ")", x.tells(0, line), -1);
        }
        int[] noCall = {-1, 1, 59, 60, MAX, MIN};
        for (int call : noCall) {
            check.due("tells(" + call + ", 1)", x.tells(call, 1), -1);
        }
    }
}
