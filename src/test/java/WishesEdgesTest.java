/** Lines and wishes at their edges: the first terms, and promises 1 to 5, 12 and 13. */
public final class WishesEdgesTest {
    private static final Check check = new Check();
    private static final int MAX = Integer.MAX_VALUE;
    private static final int MIN = Integer.MIN_VALUE;

    public static void main(String[] args) {
        nothingAtFirst();
        nothingToAskFor();
        theLastPromisedCall();
        eightLines();
        theNinthLine();
        noLineBehindTheLast();
        tickAtFirst();
        hourComesRound();
        twentyFourWishes();
        ownerAndTargetAreLines();
        rankOfAWish();
        kindOfAWish();
        numberOfAWish();
        onAtFirst();
        numberOfAnOnward();
        numberTwoOfOthers();
        noRoomForWishes();
        wrongAndNoRoom();
        onTwice();
        onOfNoWish();
        rankBecomes();
        rankOfNoWish();
        rankOutside();
        wishDoesNothing();
        onwardAlways();
        onwardAfterEachTime();
        onwardNotIfTaken();
        shutAtHours();
        shutOthersNot();
        kindsUnderOthers();
        orderOfNone();
        orderOfTwentyFour();
        orderOfLikeRanks();
        orderOfThoseThatAreOn();
        toldOfAWish();
        toldOfNoWish();
        toldOfALine();
        toldOfNoLine();
        check.end();
    }

    /** Promise 1, "No LINES, WISHES, CALLS.": all counts are 0, and number 0 is none of anything. */
    private static void nothingAtFirst() {
        WishLine x = new WishLine();
        for (int what = 0; what <= 7; what++) {
            check.due("count(" + what + ")", x.count(what), 0);
        }
        check.due("status()", x.status(), 0);
        check.due("wishTold(0, 0)", x.wishTold(0, 0), -1);
        check.due("wishTold(0, 5)", x.wishTold(0, 5), -1);
        for (int what = 0; what <= 5; what++) {
            check.due("lineTold(0, " + what + ")", x.lineTold(0, what), -1);
        }
        for (int what = 0; what <= 7; what++) {
            check.due("call(0, " + what + ")", x.call(0, what), -1);
        }
        check.due("row(0, 0)", x.row(0, 0), -1);
        check.due("piece(0, 0)", x.piece(0, 0), -1);
        check.due("acted(0, 0)", x.acted(0, 0), -1);
        check.due("tells(0, 0)", x.tells(0, 0), -1);
        check.due("backs(0, 0)", x.backs(0, 0), -1);
        check.due("actOf(0)", x.actOf(0), -1);
        check.due("trace(0)", x.trace(0), -1);
    }

    /** Promise 1, "No LINES, WISHES, CALLS.": what needs one of them is refused, a tick is not. */
    private static void nothingToAskFor() {
        WishLine x = new WishLine();
        check.refused(x, "wish(0, 0, 0, 0, 0)", x.wish(0, 0, 0, 0, 0), 1);
        check.refused(x, "on(0, true)", x.on(0, true), 1);
        check.refused(x, "on(0, false)", x.on(0, false), 1);
        check.refused(x, "rank(0, 0)", x.rank(0, 0), 1);
        check.refused(x, "dial(0, 0)", x.dial(0, 0), 1);
        check.refused(x, "take(0)", x.take(0), 1);
        check.refused(x, "down(0)", x.down(0), 1);
        check.refused(x, "act(0, 0, 0)", x.act(0, 0, 0), 1);
        check.refused(x, "judge(0, 0, 0, 0, 1)", x.judge(0, 0, 0, 0, 1), 1);
        check.refused(x, "judge(1, 0, 0, 0, 1)", x.judge(1, 0, 0, 0, 1), 1);
        check.due("alone(1, 0, 0, 0, 1)", x.alone(1, 0, 0, 0, 1), -1);
        check.due("peace(0, 1, 0, 0, 0, 1)", x.peace(0, 1, 0, 0, 0, 1), -1);
        check.done(x, "tick()", x.tick(), 1);
        check.done(x, "line()", x.line(), 0);
    }

    /**
     * What it is, "An object is used for at most 512 calls after it has been made; what later calls
     * answer is free.": the 511th and the 512th call still answer as due.
     */
    private static void theLastPromisedCall() {
        WishLine x = Check.withLines(2);
        x.dial(0, 1);
        x.take(1);
        for (int i = 1; i <= 506; i++) {
            check.due("tick()", x.tick(), i);
        }
        check.due("call 511, lineTold(0, 2)", x.lineTold(0, 2), 506);
        check.due("call 512, tick()", x.tick(), 507);
    }

    /** What it is, "LINES (8 at most, numbered from 0)." */
    private static void eightLines() {
        WishLine x = new WishLine();
        for (int i = 0; i < 8; i++) {
            check.due("count(0)", x.count(0), i);
            check.done(x, "line()", x.line(), i);
        }
        check.due("count(0)", x.count(0), 8);
        check.done(x, "wish(7, 0, 0, 7, 0)", x.wish(7, 0, 0, 7, 0), 0);
        check.done(x, "dial(7, 0)", x.dial(7, 0), 0);
        check.due("lineTold(7, 0)", x.lineTold(7, 0), 0);
    }

    /** Promise 2, line: "A LINE: its number. STATUS 2.": the ninth has no room, and none comes of it. */
    private static void theNinthLine() {
        WishLine x = Check.withLines(8);
        check.refused(x, "the ninth line()", x.line(), 2);
        check.refused(x, "the tenth line()", x.line(), 2);
        check.due("count(0)", x.count(0), 8);
        check.due("lineTold(8, 0)", x.lineTold(8, 0), -1);
        check.due("lineTold(8, 2)", x.lineTold(8, 2), -1);
    }

    /** Promise 2, line: "A LINE: its number.": the number that the next one will have is none yet. */
    private static void noLineBehindTheLast() {
        for (int lines = 1; lines <= 8; lines++) {
            WishLine x = Check.withLines(lines);
            check.refused(x, "dial from behind the last", x.dial(lines, 0), 1);
            check.refused(x, "dial to behind the last", x.dial(0, lines), 1);
            check.refused(x, "wish of one behind the last", x.wish(lines, 0, 0, 0, 0), 1);
            check.refused(x, "wish with a target behind the last", x.wish(0, 0, 0, lines, 0), 1);
            check.due("lineTold of one behind the last", x.lineTold(lines, 2), -1);
            check.due("lineTold of the last", x.lineTold(lines - 1, 2), 0);
            check.done(x, "dial of the last", x.dial(lines - 1, lines - 1), 0);
        }
    }

    /** Terms, "THE TICK is 0 at first": also when lines and wishes have come. */
    private static void tickAtFirst() {
        WishLine x = Check.withLines(1);
        x.wish(0, 0, 0, 0, 0);
        check.due("count(3)", x.count(3), 0);
        check.done(x, "tick()", x.tick(), 1);
        check.due("count(3)", x.count(3), 1);
    }

    /** Terms, "THE HOUR is it modulo 24.": hour 23 comes before hour 0, more than once. */
    private static void hourComesRound() {
        WishLine x = Check.withLines(2);
        x.wish(1, Kind.SHUT, 0, 0, 1);
        for (int tick = 0; tick <= 48; tick++) {
            boolean isMorning = tick < 12 || tick >= 24 && tick < 36 || tick == 48;
            int call = x.dial(0, 1);
            check.due("reason at tick " + tick, x.call(call, 2), isMorning ? 1 : 0);
            x.down(0);
            x.tick();
        }
    }

    /** Terms, "WISHES (24 at most, numbered from 0)" */
    private static void twentyFourWishes() {
        WishLine x = Check.withLines(2);
        for (int i = 0; i < 24; i++) {
            check.due("count(1)", x.count(1), i);
            check.done(x, "wish()", x.wish(1, i % 8, i % 10, 0, 0), i);
        }
        check.due("count(1)", x.count(1), 24);
        check.due("wishTold(23, 1)", x.wishTold(23, 1), 7);
        check.due("wishTold(24, 1)", x.wishTold(24, 1), -1);
        check.done(x, "rank(23, 9)", x.rank(23, 9), 3);
        check.done(x, "on(23, false)", x.on(23, false), 1);
        check.done(x, "act(23, 0, 1)", x.act(23, 0, 1), 24);
    }

    /** Terms, "are each of a LINE, its OWNER": and "a TARGET (a LINE)": both are lines that there are. */
    private static void ownerAndTargetAreLines() {
        WishLine x = Check.withLines(3);
        check.done(x, "the least lines", x.wish(0, 0, 0, 0, 0), 0);
        check.done(x, "the greatest lines", x.wish(2, 0, 0, 2, 0), 1);
        int[] none = {-1, 3, 7, 8, MAX, MIN};
        for (int line : none) {
            check.refused(x, "owner " + line, x.wish(line, 0, 0, 0, 0), 1);
            check.refused(x, "target " + line, x.wish(0, 0, 0, line, 0), 1);
        }
        check.due("count(1)", x.count(1), 2);
        check.due("wishTold(1, 0)", x.wishTold(1, 0), 2);
        check.due("wishTold(1, 3)", x.wishTold(1, 3), 2);
    }

    /** Terms, "with a RANK 0 .. 9, a KIND,": the rank of a new wish. */
    private static void rankOfAWish() {
        WishLine x = Check.withLines(1);
        check.done(x, "rank 0", x.wish(0, 0, 0, 0, 0), 0);
        check.done(x, "rank 9", x.wish(0, 0, 9, 0, 0), 1);
        int[] none = {-1, 10, MAX, MIN};
        for (int rank : none) {
            check.refused(x, "rank " + rank, x.wish(0, 0, rank, 0, 0), 1);
        }
        check.due("wishTold(0, 2)", x.wishTold(0, 2), 0);
        check.due("wishTold(1, 2)", x.wishTold(1, 2), 9);
    }

    /** Terms, "with a RANK 0 .. 9, a KIND,": there are the kinds 0 to 7. */
    private static void kindOfAWish() {
        WishLine x = Check.withLines(1);
        for (int kind = 0; kind < 8; kind++) {
            check.done(x, "kind " + kind, x.wish(0, kind, 0, 0, 0), kind);
            check.due("wishTold(" + kind + ", 1)", x.wishTold(kind, 1), kind);
        }
        int[] none = {-1, 8, MAX, MIN};
        for (int kind : none) {
            check.refused(x, "kind " + kind, x.wish(0, kind, 0, 0, 0), 1);
        }
        check.due("count(1)", x.count(1), 8);
    }

    /** Terms, "a NUMBER 0 .. 31;": of every kind but onward. */
    private static void numberOfAWish() {
        for (int kind = 0; kind < 8; kind++) {
            WishLine x = Check.withLines(1);
            check.done(x, "number 0 of kind " + kind, x.wish(0, kind, 0, 0, 0), 0);
            if (kind != Kind.ONWARD) {
                check.done(x, "number 31 of kind " + kind, x.wish(0, kind, 0, 0, 31), 1);
                check.due("wishTold(1, 4)", x.wishTold(1, 4), 31);
            }
            int[] none = {-1, 32, MAX, MIN};
            for (int number : none) {
                check.refused(x, "number " + number + " of kind " + kind, x.wish(0, kind, 0, 0, number), 1);
            }
        }
    }

    /** Terms, "they are ON (at first) or not." */
    private static void onAtFirst() {
        WishLine x = Check.withLines(1);
        for (int kind = 0; kind < 8; kind++) {
            x.wish(0, kind, 0, 0, 0);
            check.due("wishTold(" + kind + ", 5)", x.wishTold(kind, 5), 1);
        }
        check.due("lineTold(0, 4)", x.lineTold(0, 4), 8);
        x.on(7, false);
        check.due("wishTold(7, 5)", x.wishTold(7, 5), 0);
        check.due("lineTold(0, 4)", x.lineTold(0, 4), 7);
    }

    /** Promise 3, wish: "STATUS 1 (also: an ONWARD whose NUMBER is above 11, or 2), 2.": 0, 1, 3 to 11 are fine. */
    private static void numberOfAnOnward() {
        WishLine x = Check.withLines(2);
        int made = 0;
        for (int number = -1; number <= 33; number++) {
            String call = "an onward of " + number;
            if (number == 0 || number == 1 || number >= 3 && number <= 11) {
                check.done(x, call, x.wish(0, Kind.ONWARD, 0, 1, number), made);
                check.due("its number", x.wishTold(made, 4), number);
                made++;
            } else {
                check.refused(x, call, x.wish(0, Kind.ONWARD, 0, 1, number), 1);
            }
        }
        check.due("count(1)", x.count(1), 11);
    }

    /** Promise 3, wish: "(also: an ONWARD whose NUMBER is above 11, or 2)": other kinds may have these numbers. */
    private static void numberTwoOfOthers() {
        int[] numbers = {2, 12, 31};
        int made = 0;
        WishLine x = Check.withLines(1);
        for (int kind = 0; kind < 8; kind++) {
            for (int number : numbers) {
                if (kind != Kind.ONWARD) {
                    check.done(x, "number " + number + " of kind " + kind, x.wish(0, kind, 0, 0, number), made);
                    made++;
                }
            }
        }
    }

    /**
     * Promise 3, wish: "A WISH of a LINE: its number.": the 25th has no room, "STATUS 1 (also: an ONWARD whose
     * NUMBER is above 11, or 2), 2."
     */
    private static void noRoomForWishes() {
        WishLine x = Check.withLines(2);
        for (int i = 0; i < 24; i++) {
            check.done(x, "wish()", x.wish(i % 2, 0, 0, 0, 0), i);
        }
        check.refused(x, "the 25th wish()", x.wish(0, 0, 0, 0, 0), 2);
        check.due("count(1)", x.count(1), 24);
        x.on(3, false);
        check.refused(x, "one that is not on keeps its room", x.wish(0, 0, 0, 0, 0), 2);
        check.due("lineTold(0, 4)", x.lineTold(0, 4), 12);
        check.due("lineTold(1, 4)", x.lineTold(1, 4), 11);
    }

    /** Terms, "Where several hold, the lowest.": a wrong wish for which there is no room either. */
    private static void wrongAndNoRoom() {
        WishLine x = Check.withLines(1);
        for (int i = 0; i < 24; i++) {
            x.wish(0, 0, 0, 0, 0);
        }
        check.refused(x, "a wrong owner", x.wish(1, 0, 0, 0, 0), 1);
        check.refused(x, "a wrong kind", x.wish(0, 8, 0, 0, 0), 1);
        check.refused(x, "a wrong rank", x.wish(0, 0, 10, 0, 0), 1);
        check.refused(x, "a wrong target", x.wish(0, 0, 0, 1, 0), 1);
        check.refused(x, "a wrong number", x.wish(0, 0, 0, 0, 32), 1);
        check.refused(x, "a wrong onward", x.wish(0, Kind.ONWARD, 0, 0, 2), 1);
    }

    /** Promise 4, on: "A WISH is ON, or not: 1 if it was otherwise, else 0. STATUS 1." */
    private static void onTwice() {
        WishLine x = Check.withLines(1);
        x.wish(0, 0, 0, 0, 0);
        check.done(x, "on as it is at first", x.on(0, true), 0);
        check.done(x, "off", x.on(0, false), 1);
        check.done(x, "off again", x.on(0, false), 0);
        check.due("wishTold(0, 5)", x.wishTold(0, 5), 0);
        check.done(x, "on", x.on(0, true), 1);
        check.done(x, "on again", x.on(0, true), 0);
        check.due("wishTold(0, 5)", x.wishTold(0, 5), 1);
    }

    /** Promise 4, on: "A WISH is ON, or not: 1 if it was otherwise, else 0. STATUS 1.": of a number that is none. */
    private static void onOfNoWish() {
        WishLine x = Check.withLines(1);
        x.wish(0, 0, 0, 0, 0);
        int[] none = {-1, 1, 23, 24, MAX, MIN};
        for (int wish : none) {
            check.refused(x, "on(" + wish + ", true)", x.on(wish, true), 1);
            check.refused(x, "on(" + wish + ", false)", x.on(wish, false), 1);
        }
        check.due("wishTold(0, 5)", x.wishTold(0, 5), 1);
    }

    /** Promise 5, rank: "A WISH's RANK becomes n: what it was. STATUS 1.": from 0 to 9 and to itself. */
    private static void rankBecomes() {
        WishLine x = Check.withLines(1);
        x.wish(0, 0, 4, 0, 0);
        check.done(x, "rank(0, 9)", x.rank(0, 9), 4);
        check.done(x, "rank(0, 9)", x.rank(0, 9), 9);
        check.done(x, "rank(0, 0)", x.rank(0, 0), 9);
        check.done(x, "rank(0, 0)", x.rank(0, 0), 0);
        x.on(0, false);
        check.done(x, "rank of one that is not on", x.rank(0, 5), 0);
        check.due("wishTold(0, 2)", x.wishTold(0, 2), 5);
    }

    /** Promise 5, rank: "A WISH's RANK becomes n: what it was. STATUS 1.": of a number that is none. */
    private static void rankOfNoWish() {
        WishLine x = Check.withLines(1);
        x.wish(0, 0, 4, 0, 0);
        int[] none = {-1, 1, 23, 24, MAX, MIN};
        for (int wish : none) {
            check.refused(x, "rank(" + wish + ", 0)", x.rank(wish, 0), 1);
        }
    }

    /** Promise 5, rank: "A WISH's RANK becomes n: what it was. STATUS 1.": ranks are 0 to 9. */
    private static void rankOutside() {
        WishLine x = Check.withLines(1);
        x.wish(0, 0, 4, 0, 0);
        int[] none = {-1, 10, MAX, MIN};
        for (int n : none) {
            check.refused(x, "rank(0, " + n + ")", x.rank(0, n), 1);
            check.due("wishTold(0, 2)", x.wishTold(0, 2), 4);
        }
    }

    /** Terms, "KINDS: 0 WISH (does nothing).": whatever its number and whether its line is free or not. */
    private static void wishDoesNothing() {
        WishLine x = Check.withLines(4);
        int[] numbers = {0, 1, 3, 7, 31};
        for (int number : numbers) {
            x.wish(1, Kind.WISH, 0, 3, number);
            x.wish(0, Kind.WISH, 0, 3, number);
        }
        x.dial(0, 1);
        check.dueCall(x, 0, 0, 0, 0, 1, 2, -1, 0, 0);
        check.due("tells(0, 1)", x.tells(0, 1), 1);
        x.tick();
        check.dueCall(x, 0, 0, 0, 0, 1, 2, -1, 1, 0);
        x.dial(2, 1);
        check.dueCall(x, 1, 2, 3, 3, 1, 0, -1, 0, 0);
        x.dial(2, 0);
        check.dueCall(x, 2, 2, 3, 3, 1, 0, -1, 0, 0);
        check.dueBacks(x);
    }

    /**
     * Terms, "1 ONWARD, under WISH (NUMBER 0 always, 1 if busy, 2 + n (n 1 .. 9) if not taken in n TICKS).": 0 and
     * 1.
     */
    private static void onwardAlways() {
        WishLine x = Check.withLines(4);
        x.wish(1, Kind.ONWARD, 0, 2, 0);
        x.dial(0, 1);
        check.dueRow(x, 0, 1, 2);
        WishLine y = Check.withLines(4);
        y.wish(1, Kind.ONWARD, 0, 2, 1);
        y.dial(0, 1);
        check.dueRow(y, 0, 1);
        y.dial(3, 1);
        check.dueRow(y, 1, 1, 2);
    }

    /**
     * Terms, "1 ONWARD, under WISH (NUMBER 0 always, 1 if busy, 2 + n (n 1 .. 9) if not taken in n TICKS).": each
     * n.
     */
    private static void onwardAfterEachTime() {
        for (int n = 1; n <= 9; n++) {
            WishLine x = Check.withLines(3);
            x.wish(1, Kind.ONWARD, 0, 2, 2 + n);
            x.dial(0, 1);
            check.dueCall(x, 0, 0, 0, 0, 1, 2, -1, 0, 0);
            for (int tick = 1; tick < n; tick++) {
                x.tick();
                check.dueCall(x, 0, 0, 0, 0, 1, 2, -1, tick, 0);
            }
            x.tick();
            check.dueCall(x, 0, 0, 0, 0, 2, 4, -1, 0, 1);
            x.tick();
            check.dueCall(x, 0, 0, 0, 0, 2, 4, -1, 1, 1);
        }
    }

    /** Terms, "2 + n (n 1 .. 9) if not taken in n TICKS).": taken before the last of these ticks, it stays. */
    private static void onwardNotIfTaken() {
        for (int n = 1; n <= 9; n++) {
            WishLine x = Check.withLines(3);
            x.wish(1, Kind.ONWARD, 0, 2, 2 + n);
            x.dial(0, 1);
            for (int tick = 1; tick < n; tick++) {
                x.tick();
            }
            x.take(1);
            x.tick();
            x.tick();
            check.dueCall(x, 0, 0, 1, 0, 1, 0, 1, n - 1, 0);
        }
    }

    /**
     * Terms, "2 SHUT, under WISH (it shuts out its TARGET; NUMBER bit 0: at THE HOURS 0 .. 11, bit 1: at
     * 12 .. 23, bit 2: also calls that the TARGET sends on).": every number at the first and last hours.
     */
    private static void shutAtHours() {
        for (int number = 0; number < 32; number++) {
            WishLine x = Check.withLines(2);
            x.wish(1, Kind.SHUT, 0, 0, number);
            for (int tick = 0; tick <= 24; tick++) {
                if (tick == 0 || tick == 11 || tick == 12 || tick == 23 || tick == 24) {
                    int bit = tick == 12 || tick == 23 ? 2 : 1;
                    int call = x.dial(0, 1);
                    check.due("shut " + number + " at " + tick, x.call(call, 2), (number & bit) != 0 ? 1 : 0);
                    x.down(0);
                }
                x.tick();
            }
        }
    }

    /** Terms, "2 SHUT, under WISH (it shuts out its TARGET;": no other line, nor its own calls to the target. */
    private static void shutOthersNot() {
        WishLine x = Check.withLines(3);
        x.wish(1, Kind.SHUT, 0, 0, 7);
        check.due("dial(2, 1)", x.dial(2, 1), 0);
        check.dueCall(x, 0, 2, 0, 0);
        x.down(2);
        check.due("dial(1, 0)", x.dial(1, 0), 1);
        check.dueCall(x, 1, 1, 0, 0);
        x.down(1);
        check.due("dial(0, 1)", x.dial(0, 1), 2);
        check.dueCall(x, 2, 0, 3, 1);
    }

    /**
     * Terms, "3 HIDDEN, under SHUT. 4 WAITING, under WISH. 5 BACK, under WISH. 6 SHARED, under WISH (with
     * its TARGET). 7 PAID, under WISH.": which kind stands for which, as forge(0, ..) tells.
     */
    private static void kindsUnderOthers() {
        WishLine x = Check.withLines(1);
        for (int kind = 0; kind < 8; kind++) {
            x.wish(0, kind, 0, 0, 0);
        }
        for (int kind = 0; kind < 8; kind++) {
            for (int above = 0; above < 8; above++) {
                boolean isUnder = above == 0 || above == kind || kind == Kind.HIDDEN && above == Kind.SHUT;
                int got = x.forge(0, above, kind);
                check.due("kind " + kind + " for " + above, got, isUnder ? kind : -1);
                check.due("status()", x.status(), isUnder ? 0 : 11);
            }
        }
    }

    /** Terms, "The ORDER of a LINE's WISHES that are ON": of a line that has none. */
    private static void orderOfNone() {
        WishLine x = Check.withLines(2);
        check.due("lineTold(0, 4)", x.lineTold(0, 4), 0);
        check.due("lineTold(0, 5)", x.lineTold(0, 5), -1);
        x.wish(1, 0, 0, 0, 0);
        check.due("lineTold(0, 4)", x.lineTold(0, 4), 0);
        check.due("lineTold(0, 5)", x.lineTold(0, 5), -1);
        x.on(0, false);
        check.due("lineTold(1, 4)", x.lineTold(1, 4), 0);
        check.due("lineTold(1, 5)", x.lineTold(1, 5), -1);
    }

    /**
     * Terms, "The ORDER of a LINE's WISHES that are ON: by RANK, the least first, of like ones by numbers.": all
     * 24.
     */
    private static void orderOfTwentyFour() {
        WishLine x = Check.withLines(1);
        for (int i = 0; i < 24; i++) {
            x.wish(0, 0, 9 - i % 10, 0, 0);
        }
        int[] want = {9, 19, 8, 18, 7, 17, 6, 16, 5, 15, 4, 14, 3, 13, 23, 2, 12, 22, 1, 11, 21, 0, 10, 20};
        for (int i = 0; i < 24; i++) {
            check.due("lineTold(0, " + (5 + i) + ")", x.lineTold(0, 5 + i), want[i]);
        }
        check.due("lineTold(0, 29)", x.lineTold(0, 29), -1);
        check.due("lineTold(0, 4)", x.lineTold(0, 4), 24);
    }

    /** Terms, "of like ones by numbers.": also if a rank became like another's later. */
    private static void orderOfLikeRanks() {
        WishLine x = Check.withLines(1);
        x.wish(0, 0, 3, 0, 0);
        x.wish(0, 0, 2, 0, 0);
        x.wish(0, 0, 1, 0, 0);
        check.due("the first", x.lineTold(0, 5), 2);
        x.rank(0, 1);
        check.due("the first", x.lineTold(0, 5), 0);
        check.due("the second", x.lineTold(0, 6), 2);
        check.due("the third", x.lineTold(0, 7), 1);
        x.rank(1, 1);
        check.due("the second", x.lineTold(0, 6), 1);
        check.due("the third", x.lineTold(0, 7), 2);
    }

    /** Terms, "The ORDER of a LINE's WISHES that are ON": one that is not on leaves its place to the next. */
    private static void orderOfThoseThatAreOn() {
        WishLine x = Check.withLines(1);
        for (int i = 0; i < 4; i++) {
            x.wish(0, 0, i, 0, 0);
        }
        x.on(0, false);
        x.on(2, false);
        check.due("the first", x.lineTold(0, 5), 1);
        check.due("the second", x.lineTold(0, 6), 3);
        check.due("the third", x.lineTold(0, 7), -1);
        x.on(0, true);
        check.due("the first", x.lineTold(0, 5), 0);
        check.due("the third", x.lineTold(0, 7), 3);
    }

    /**
     * Promise 12, wishTold: "Of a WISH: 0 OWNER, 1 KIND, 2 RANK, 3 TARGET, 4 NUMBER, 5 whether it is ON. -1: no
     * such."
     */
    private static void toldOfAWish() {
        WishLine x = Check.withLines(3);
        x.wish(2, Kind.SHUT, 9, 1, 31);
        int[] want = {2, 2, 9, 1, 31, 1};
        for (int what = 0; what < 6; what++) {
            check.due("wishTold(0, " + what + ")", x.wishTold(0, what), want[what]);
        }
        int[] none = {-1, 6, MAX, MIN};
        for (int what : none) {
            check.due("wishTold(0, " + what + ")", x.wishTold(0, what), -1);
        }
    }

    /** Promise 12, wishTold: "-1: no such.": of a number that is no wish. */
    private static void toldOfNoWish() {
        WishLine x = Check.withLines(1);
        x.wish(0, 0, 0, 0, 0);
        int[] none = {-1, 1, 23, 24, MAX, MIN};
        for (int wish : none) {
            for (int what = 0; what < 6; what++) {
                check.due("wishTold(" + wish + ", " + what + ")", x.wishTold(wish, what), -1);
            }
        }
    }

    /**
     * Promise 13, lineTold: "Of a LINE: 0 the CALL in which it is (NONE), 1 the CALL that KNOCKS at it (NONE),
     * 2 what it has to pay in all, 3 whether it rings, 4 how many WISHES of it are ON, 5 + i the i-th WISH of
     * its ORDER (NONE).": of a line with nothing, and of a what that is none.
     */
    private static void toldOfALine() {
        WishLine x = Check.withLines(8);
        int[] want = {-1, -1, 0, 0, 0, -1};
        for (int line = 0; line < 8; line++) {
            for (int what = 0; what < 6; what++) {
                check.due("lineTold(" + line + ", " + what + ")", x.lineTold(line, what), want[what]);
            }
        }
        x.wish(7, 0, 0, 0, 0);
        int[] none = {-1, 6, 28, 29, 1000, MAX, MIN};
        for (int what : none) {
            check.due("lineTold(7, " + what + ")", x.lineTold(7, what), -1);
        }
        check.due("lineTold(7, 5)", x.lineTold(7, 5), 0);
    }

    /** Promise 13, lineTold: "-1 also: no such.": of a number that is no line. */
    private static void toldOfNoLine() {
        WishLine x = Check.withLines(2);
        int[] none = {-1, 2, 7, 8, MAX, MIN};
        for (int line : none) {
            for (int what = 0; what <= 6; what++) {
                check.due("lineTold(" + line + ", " + what + ")", x.lineTold(line, what), -1);
            }
        }
    }
}
