/** Promises 1 to 5, 12, 24, 31, and of 13 what tells of wishes. */
public final class WishesTest {
    private static final Check check = new Check();

    public static void main(String[] args) {
        newObject();
        lines();
        wishes();
        wrongWishes();
        roomForWishes();
        onAndOff();
        ranks();
        orders();
        check.end();
    }

    private static void newObject() {
        WishLine x = new WishLine();
        for (int what = 0; what <= 7; what++) {
            check.due("new: count(" + what + ")", x.count(what), 0);
        }
        check.due("new: count(8)", x.count(8), -1);
        check.due("new: count(-1)", x.count(-1), -1);
        check.due("new: status()", x.status(), 0);
        check.due("new: wishTold(0, 0)", x.wishTold(0, 0), -1);
        check.due("new: lineTold(0, 0)", x.lineTold(0, 0), -1);
        check.due("new: lineTold(0, 2)", x.lineTold(0, 2), -1);
        check.due("new: call(0, 0)", x.call(0, 0), -1);
        check.due("new: row(0, 0)", x.row(0, 0), -1);
        check.due("new: piece(0, 0)", x.piece(0, 0), -1);
        check.due("new: acted(0, 0)", x.acted(0, 0), -1);
        check.due("new: tells(0, 0)", x.tells(0, 0), -1);
        check.due("new: backs(0, 0)", x.backs(0, 0), -1);
        check.due("new: actOf(0)", x.actOf(0), -1);
        check.due("new: trace(0)", x.trace(0), -1);
        check.due("NONE", WishLine.NONE, -1);
    }

    private static void lines() {
        WishLine x = new WishLine();
        for (int i = 0; i < 8; i++) {
            check.done(x, "line()", x.line(), i);
            check.due("count(0)", x.count(0), i + 1);
        }
        check.refused(x, "the ninth line()", x.line(), 2);
        check.due("count(0)", x.count(0), 8);
        check.done(x, "dial(7, 0)", x.dial(7, 0), 0);
    }

    private static void wishes() {
        WishLine x = Check.withLines(3);
        check.done(x, "wish(2, 3, 9, 1, 31)", x.wish(2, 3, 9, 1, 31), 0);
        check.done(x, "wish(0, 0, 0, 0, 0)", x.wish(0, 0, 0, 0, 0), 1);
        int[] want = {2, 3, 9, 1, 31, 1};
        for (int what = 0; what < 6; what++) {
            check.due("wishTold(0, " + what + ")", x.wishTold(0, what), want[what]);
        }
        check.due("wishTold(0, 6)", x.wishTold(0, 6), -1);
        check.due("wishTold(0, -1)", x.wishTold(0, -1), -1);
        check.due("wishTold(2, 0)", x.wishTold(2, 0), -1);
        check.due("wishTold(-1, 0)", x.wishTold(-1, 0), -1);
        check.due("count(1)", x.count(1), 2);
        int made = 2;
        for (int number = 0; number <= 11; number++) {
            if (number != 2) {
                check.done(x, "an onward of " + number, x.wish(0, 1, 0, 1, number), made);
                made++;
            }
        }
    }

    private static void wrongWishes() {
        WishLine x = Check.withLines(2);
        int[][] wrong = {
            {-1, 0, 0, 0, 0}, {2, 0, 0, 0, 0}, {0, -1, 0, 0, 0}, {0, 8, 0, 0, 0}, {0, 0, -1, 0, 0},
            {0, 0, 10, 0, 0}, {0, 0, 0, -1, 0}, {0, 0, 0, 2, 0}, {0, 0, 0, 0, -1}, {0, 0, 0, 0, 32},
            {0, 1, 0, 0, 2}, {0, 1, 0, 0, 12}, {0, 1, 0, 0, 31},
            {Integer.MIN_VALUE, 0, 0, 0, 0}, {0, Integer.MAX_VALUE, 0, 0, 0},
        };
        for (int[] w : wrong) {
            String call = "wish(" + java.util.Arrays.toString(w) + ")";
            check.refused(x, call, x.wish(w[0], w[1], w[2], w[3], w[4]), 1);
        }
        check.due("count(1)", x.count(1), 0);
        check.done(x, "a shut of 12", x.wish(0, 2, 0, 0, 12), 0);
        check.done(x, "a shut of 2", x.wish(0, 2, 0, 0, 2), 1);
    }

    private static void roomForWishes() {
        WishLine x = Check.withLines(1);
        for (int i = 0; i < 24; i++) {
            check.done(x, "wish()", x.wish(0, i % 8, i % 10, 0, 0), i);
        }
        check.refused(x, "the 25th wish()", x.wish(0, 0, 0, 0, 0), 2);
        check.refused(x, "the 25th wish(), a wrong one", x.wish(0, 9, 0, 0, 0), 1);
        check.due("count(1)", x.count(1), 24);
        check.due("lineTold(0, 4)", x.lineTold(0, 4), 24);
    }

    private static void onAndOff() {
        WishLine x = Check.withLines(1);
        x.wish(0, 5, 0, 0, 0);
        check.done(x, "on(0, true)", x.on(0, true), 0);
        check.done(x, "on(0, false)", x.on(0, false), 1);
        check.due("wishTold(0, 5)", x.wishTold(0, 5), 0);
        check.due("lineTold(0, 4)", x.lineTold(0, 4), 0);
        check.due("lineTold(0, 5)", x.lineTold(0, 5), -1);
        check.done(x, "on(0, false)", x.on(0, false), 0);
        check.done(x, "on(0, true)", x.on(0, true), 1);
        check.due("wishTold(0, 5)", x.wishTold(0, 5), 1);
        check.refused(x, "on(1, true)", x.on(1, true), 1);
        check.refused(x, "on(-1, true)", x.on(-1, true), 1);
        check.refused(x, "on(24, true)", x.on(24, true), 1);
    }

    private static void ranks() {
        WishLine x = Check.withLines(1);
        x.wish(0, 5, 4, 0, 0);
        check.done(x, "rank(0, 9)", x.rank(0, 9), 4);
        check.done(x, "rank(0, 0)", x.rank(0, 0), 9);
        check.refused(x, "rank(0, 10)", x.rank(0, 10), 1);
        check.refused(x, "rank(0, -1)", x.rank(0, -1), 1);
        check.refused(x, "rank(1, 0)", x.rank(1, 0), 1);
        check.refused(x, "rank(-1, 0)", x.rank(-1, 0), 1);
        check.due("wishTold(0, 2)", x.wishTold(0, 2), 0);
    }

    private static void orders() {
        WishLine x = Check.withLines(2);
        int[] ranks = {5, 3, 5, 0, 9, 3};
        for (int rank : ranks) {
            x.wish(1, 0, rank, 0, 0);
        }
        x.wish(0, 0, 0, 0, 0);
        int[] want = {3, 1, 5, 0, 2, 4, -1};
        for (int i = 0; i < want.length; i++) {
            check.due("lineTold(1, " + (5 + i) + ")", x.lineTold(1, 5 + i), want[i]);
        }
        x.on(1, false);
        x.rank(4, 5);
        int[] then = {3, 5, 0, 2, 4, -1};
        for (int i = 0; i < then.length; i++) {
            check.due("then lineTold(1, " + (5 + i) + ")", x.lineTold(1, 5 + i), then[i]);
        }
        check.due("lineTold(1, 4)", x.lineTold(1, 4), 5);
        check.due("lineTold(0, 5)", x.lineTold(0, 5), 6);
        check.due("lineTold(0, 6)", x.lineTold(0, 6), -1);
        check.due("lineTold(1, -1)", x.lineTold(1, -1), -1);
        check.due("lineTold(2, 4)", x.lineTold(2, 4), -1);
        check.due("lineTold(-1, 4)", x.lineTold(-1, 4), -1);
        check.due("lineTold(1, max)", x.lineTold(1, Integer.MAX_VALUE), -1);
        check.due("lineTold(1, min)", x.lineTold(1, Integer.MIN_VALUE), -1);
    }
}
