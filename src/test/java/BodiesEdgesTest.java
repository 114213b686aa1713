/** Acts of wishes at their edges: what section 4 says of bodies, and promises 25 and 26. */
public final class BodiesEdgesTest {
    private static final Check check = new Check();
    private static final int MAX = Integer.MAX_VALUE;
    private static final int MIN = Integer.MIN_VALUE;

    // The wish that acts has the number 5, the rank 3 and the target 6.
    private static final int WISH = 5;

    private static final int HEAR = 0;
    private static final int TURN = 1;
    private static final int PAY = 2;
    private static final int END = 3;

    public static void main(String[] args) {
        bodiesOfAWish();
        bodiesOfAnOnward();
        bodiesOfAShut();
        bodiesOfAHidden();
        bodiesOfAWaiting();
        bodiesOfABack();
        bodiesOfAShared();
        bodiesOfAPaid();
        wishWraps();
        onwardWraps();
        shutWraps();
        hiddenWraps();
        waitingWraps();
        backWraps();
        sharedWraps();
        paidWraps();
        leastNumbers();
        greatestNumbers();
        numberIsNotItsNumber();
        rankAsItIsNow();
        nextKindAbove();
        ownKindIsAskedAgain();
        longestTrace();
        traceOfTheLatest();
        fiftyAreKept();
        actOfNoWish();
        noSuchAct();
        anyAnswer();
        actOfOneThatIsNotOn();
        traceOfNone();
        traceOutside();
        traceOfARefusedAct();
        check.end();
    }

    private static WishLine withWish(int kind) {
        WishLine x = Check.withLines(8);
        for (int i = 0; i < WISH; i++) {
            x.wish(0, Kind.WISH, 0, 0, 0);
        }
        x.wish(1, kind, 3, 6, 1);
        return x;
    }

    private static void due(WishLine x, int act, int number, int want, int... trace) {
        check.done(x, "act(5, " + act + ", " + number + ")", x.act(WISH, act, number), want);
        check.dueTrace(x, trace);
    }

    /**
     * Section 4, "BODIES, each with its number:" and "WISH: 10 hear: x + n. 11 turn: hear(x) * 2. 12 pay: x - r.
     * 13 end: turn(x) ^ pay(x)."
     */
    private static void bodiesOfAWish() {
        WishLine x = withWish(Kind.WISH);
        due(x, HEAR, 10, 15, 10);
        due(x, TURN, 10, 30, 11, 10);
        due(x, PAY, 10, 7, 12);
        due(x, END, 10, 25, 13, 11, 10, 12);
    }

    /** Section 4, "ONWARD: 20 turn: super.turn(x) + t." */
    private static void bodiesOfAnOnward() {
        WishLine x = withWish(Kind.ONWARD);
        due(x, HEAR, 10, 15, 10);
        due(x, TURN, 10, 36, 20, 11, 10);
        due(x, PAY, 10, 7, 12);
        due(x, END, 10, 35, 13, 20, 11, 10, 12);
    }

    /** Section 4, "SHUT: 30 hear: super.hear(x) * 3. 31 end: super.end(x + 1)." */
    private static void bodiesOfAShut() {
        WishLine x = withWish(Kind.SHUT);
        due(x, HEAR, 10, 45, 30, 10);
        due(x, TURN, 10, 90, 11, 30, 10);
        due(x, PAY, 10, 7, 12);
        due(x, END, 10, 104, 31, 13, 11, 30, 10, 12);
    }

    /** Section 4, "HIDDEN: 40 hear: super.hear(x) - pay(x). 41 turn: super.turn(x - t)." */
    private static void bodiesOfAHidden() {
        WishLine x = withWish(Kind.HIDDEN);
        due(x, HEAR, 10, 38, 40, 30, 10, 12);
        due(x, TURN, 10, 52, 41, 11, 40, 30, 10, 12);
        due(x, PAY, 10, 7, 12);
        due(x, END, 10, 48, 31, 13, 41, 11, 40, 30, 10, 12, 12);
    }

    /** Section 4, "WAITING: 50 end: pay(x) - super.end(x)." */
    private static void bodiesOfAWaiting() {
        WishLine x = withWish(Kind.WAITING);
        due(x, HEAR, 10, 15, 10);
        due(x, TURN, 10, 30, 11, 10);
        due(x, PAY, 10, 7, 12);
        due(x, END, 10, -18, 50, 12, 13, 11, 10, 12);
    }

    /** Section 4, "BACK: 60 pay: super.pay(x) + t." */
    private static void bodiesOfABack() {
        WishLine x = withWish(Kind.BACK);
        due(x, HEAR, 10, 15, 10);
        due(x, TURN, 10, 30, 11, 10);
        due(x, PAY, 10, 13, 60, 12);
        due(x, END, 10, 19, 13, 11, 10, 60, 12);
    }

    /** Section 4, "SHARED: 70 turn: super.turn(x) ^ hear(t)." */
    private static void bodiesOfAShared() {
        WishLine x = withWish(Kind.SHARED);
        due(x, HEAR, 10, 15, 10);
        due(x, TURN, 10, 21, 70, 11, 10, 10);
        due(x, PAY, 10, 7, 12);
        due(x, END, 10, 18, 13, 70, 11, 10, 10, 12);
    }

    /** Section 4, "PAID: 80 pay: super.pay(x) * 2." */
    private static void bodiesOfAPaid() {
        WishLine x = withWish(Kind.PAID);
        due(x, HEAR, 10, 15, 10);
        due(x, TURN, 10, 30, 11, 10);
        due(x, PAY, 10, 14, 80, 12);
        due(x, END, 10, 16, 13, 11, 10, 80, 12);
    }

    /** Section 4, "ACTS of WISHES, with a number x (32 bits, wrapping): 0 hear, 1 turn, 2 pay, 3 end;": of a wish. */
    private static void wishWraps() {
        WishLine x = withWish(Kind.WISH);
        due(x, HEAR, MAX, MIN + 4, 10);
        due(x, HEAR, MAX - 5, MAX, 10);
        due(x, HEAR, MIN, MIN + 5, 10);
        due(x, TURN, MAX, 8, 11, 10);
        due(x, TURN, 1 << 30, MIN + 10, 11, 10);
        due(x, PAY, MIN, MAX - 2, 12);
        due(x, PAY, MIN + 3, MIN, 12);
        due(x, END, MAX, MAX - 11, 13, 11, 10, 12);
    }

    /** Section 4, "with a number x (32 bits, wrapping)": of an onward. */
    private static void onwardWraps() {
        WishLine x = withWish(Kind.ONWARD);
        due(x, TURN, (1 << 30) - 6, MIN + 4, 20, 11, 10);
        due(x, TURN, MAX, 14, 20, 11, 10);
    }

    /**
     * Section 4, "with a number x (32 bits, wrapping)": of a shut, whose end() goes from the greatest number to
     * the least.
     */
    private static void shutWraps() {
        WishLine x = withWish(Kind.SHUT);
        due(x, HEAR, MAX, MIN + 12, 30, 10);
        due(x, END, MAX, MAX - 28, 31, 13, 11, 30, 10, 12);
    }

    /**
     * Section 4, "with a number x (32 bits, wrapping)": of a hidden, whose turn() goes from the least number to a
     * great one.
     */
    private static void hiddenWraps() {
        WishLine x = withWish(Kind.HIDDEN);
        due(x, HEAR, MAX, 16, 40, 30, 10, 12);
        due(x, TURN, MIN, 12, 41, 11, 40, 30, 10, 12);
    }

    /** Section 4, "with a number x (32 bits, wrapping)": of a waiting. */
    private static void waitingWraps() {
        WishLine x = withWish(Kind.WAITING);
        due(x, END, MIN, 6, 50, 12, 13, 11, 10, 12);
    }

    /** Section 4, "with a number x (32 bits, wrapping)": of a back. */
    private static void backWraps() {
        WishLine x = withWish(Kind.BACK);
        due(x, PAY, MIN, MIN + 3, 60, 12);
        due(x, PAY, MAX, MIN + 2, 60, 12);
    }

    /** Section 4, "with a number x (32 bits, wrapping)": of a shared. */
    private static void sharedWraps() {
        WishLine x = withWish(Kind.SHARED);
        due(x, TURN, MAX, 3, 70, 11, 10, 10);
    }

    /** Section 4, "with a number x (32 bits, wrapping)": of a paid. */
    private static void paidWraps() {
        WishLine x = withWish(Kind.PAID);
        due(x, PAY, MIN, -6, 80, 12);
        due(x, PAY, MAX, -8, 80, 12);
    }

    /** Section 4, "n is its number, r its RANK, t its TARGET.": all are 0. */
    private static void leastNumbers() {
        WishLine x = Check.withLines(1);
        x.wish(0, Kind.HIDDEN, 0, 0, 31);
        check.done(x, "act(0, 0, 4)", x.act(0, HEAR, 4), 8);
        check.done(x, "act(0, 1, 4)", x.act(0, TURN, 4), 16);
        check.done(x, "act(0, 2, 4)", x.act(0, PAY, 4), 4);
        check.done(x, "act(0, 3, 4)", x.act(0, END, 4), 20 ^ 5);
    }

    /** Section 4, "n is its number, r its RANK, t its TARGET.": 23, 9 and 7. */
    private static void greatestNumbers() {
        WishLine x = Check.withLines(8);
        for (int i = 0; i < 23; i++) {
            x.wish(0, Kind.WISH, 0, 0, 0);
        }
        x.wish(0, Kind.HIDDEN, 9, 7, 0);
        check.done(x, "act(23, 0, 0)", x.act(23, HEAR, 0), 78);
        check.done(x, "act(23, 1, 0)", x.act(23, TURN, 0), 128);
        check.done(x, "act(23, 2, 0)", x.act(23, PAY, 0), -9);
        check.done(x, "act(23, 3, 0)", x.act(23, END, 0), -132);
    }

    /** Section 4, "n is its number": the one by which it is told among the wishes, not what wishTold(.., 4) tells. */
    private static void numberIsNotItsNumber() {
        WishLine x = Check.withLines(1);
        x.wish(0, Kind.WISH, 0, 0, 31);
        x.wish(0, Kind.WISH, 0, 0, 31);
        check.done(x, "act(0, 0, 100)", x.act(0, HEAR, 100), 100);
        check.done(x, "act(1, 0, 100)", x.act(1, HEAR, 100), 101);
    }

    /** Section 4, "r its RANK": as rank() has made it. */
    private static void rankAsItIsNow() {
        WishLine x = withWish(Kind.PAID);
        x.rank(WISH, 9);
        due(x, PAY, 10, 2, 80, 12);
        x.rank(WISH, 0);
        due(x, PAY, 10, 20, 80, 12);
    }

    /**
     * Section 4, "hear(..) and so on: the body of the WISH's KIND, or, if that has none, of the next KIND above that
     * has one;": a hidden has no end() of its own but a shut has, and neither has a pay().
     */
    private static void nextKindAbove() {
        WishLine x = withWish(Kind.HIDDEN);
        x.act(WISH, END, 1);
        check.due("trace(0) of end()", x.trace(0), 31);
        x.act(WISH, PAY, 1);
        check.due("trace(0) of pay()", x.trace(0), 12);
        WishLine y = withWish(Kind.SHUT);
        y.act(WISH, TURN, 1);
        check.due("trace(0) of turn()", y.trace(0), 11);
    }

    /**
     * Section 4, "super.hear(..): so from the KIND above the body's on.": but what the body above calls without
     * super is the wish's own.
     */
    private static void ownKindIsAskedAgain() {
        WishLine x = withWish(Kind.HIDDEN);
        due(x, TURN, 10, 52, 41, 11, 40, 30, 10, 12);
        WishLine y = withWish(Kind.BACK);
        due(y, END, 10, 19, 13, 11, 10, 60, 12);
    }

    /**
     * Section 4, "THE TRACE: the numbers of the bodies that ran in the latest act(), in the order in which they began
     * (what stands further left is worked out first); the first 50 are kept.": the longest that there is.
     */
    private static void longestTrace() {
        WishLine x = withWish(Kind.HIDDEN);
        due(x, END, 0, -18, 31, 13, 41, 11, 40, 30, 10, 12, 12);
        WishLine y = withWish(Kind.WAITING);
        y.act(WISH, END, 10);
        check.dueTrace(y, 50, 12, 13, 11, 10, 12);
    }

    /**
     * Section 4, "THE TRACE: the numbers of the bodies that ran in the latest act()": nothing is left of a longer
     * one before.
     */
    private static void traceOfTheLatest() {
        WishLine x = withWish(Kind.HIDDEN);
        x.act(WISH, END, 10);
        x.act(WISH, PAY, 10);
        check.dueTrace(x, 12);
        x.act(0, TURN, 10);
        check.dueTrace(x, 11, 10);
    }

    /** Section 4, "the first 50 are kept.": no act runs more than nine bodies, so no more than nine are ever told. */
    private static void fiftyAreKept() {
        for (int kind = 0; kind < 8; kind++) {
            WishLine x = withWish(kind);
            for (int act = HEAR; act <= END; act++) {
                x.act(WISH, act, 7);
                check.due("at most nine", x.count(7) <= 9 ? 1 : 0, 1);
                check.due("trace(9)", x.trace(9), -1);
                check.due("trace(49)", x.trace(49), -1);
                check.due("trace(50)", x.trace(50), -1);
            }
        }
    }

    /**
     * Promise 25, act: "An ACT of a WISH with x: what it answers (any number). STATUS 1.": of a number that is no
     * wish.
     */
    private static void actOfNoWish() {
        WishLine x = withWish(Kind.WISH);
        int[] none = {-1, 6, 23, 24, MAX, MIN};
        for (int wish : none) {
            check.refused(x, "act(" + wish + ", 0, 0)", x.act(wish, HEAR, 0), 1);
        }
    }

    /** Promise 25, act: "An ACT of a WISH with x: what it answers (any number). STATUS 1.": acts are 0 to 3. */
    private static void noSuchAct() {
        WishLine x = withWish(Kind.WISH);
        int[] none = {-1, 4, MAX, MIN};
        for (int act : none) {
            check.refused(x, "act(5, " + act + ", 0)", x.act(WISH, act, 0), 1);
        }
        check.refused(x, "act(6, 4, 0)", x.act(6, 4, 0), 1);
    }

    /**
     * Promise 25, act: "what it answers (any number).": also -1, with the status 0, and the least and the greatest
     * number.
     */
    private static void anyAnswer() {
        WishLine x = withWish(Kind.WISH);
        due(x, HEAR, -6, -1, 10);
        due(x, HEAR, MAX - 5, MAX, 10);
        due(x, HEAR, MAX - 4, MIN, 10);
        due(x, HEAR, -5, 0, 10);
    }

    /** Promise 25, act: "An ACT of a WISH with x": it need not be on, and nothing in the house changes. */
    private static void actOfOneThatIsNotOn() {
        WishLine x = withWish(Kind.ONWARD);
        x.on(WISH, false);
        due(x, TURN, 10, 36, 20, 11, 10);
        check.due("wishTold(5, 5)", x.wishTold(WISH, 5), 0);
        check.due("count(2)", x.count(2), 0);
        check.due("count(3)", x.count(3), 0);
    }

    /** Promise 26, trace: "THE TRACE's i-th body. -1: none such.": there was no act yet. */
    private static void traceOfNone() {
        WishLine x = withWish(Kind.WISH);
        check.dueTrace(x);
        check.due("trace(0)", x.trace(0), -1);
    }

    /** Promise 26, trace: "THE TRACE's i-th body. -1: none such.": below 0 and behind the last. */
    private static void traceOutside() {
        WishLine x = withWish(Kind.WISH);
        x.act(WISH, END, 1);
        int[] none = {-1, 4, 9, 49, 50, 51, MAX, MIN};
        for (int i : none) {
            check.due("trace(" + i + ")", x.trace(i), -1);
        }
        check.due("trace(3)", x.trace(3), 12);
    }

    /** Promise 26, trace: "THE TRACE's i-th body.": a refused act leaves that of the one before. */
    private static void traceOfARefusedAct() {
        WishLine x = withWish(Kind.WISH);
        x.act(WISH, END, 1);
        x.act(WISH, 4, 1);
        x.act(6, HEAR, 1);
        check.dueTrace(x, 13, 11, 10, 12);
    }
}
