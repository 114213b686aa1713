/** Promises 27 to 31: sheets, cells, wishes by sheets, what the host does, and the status. */
public final class HostTest {
    private static final Check check = new Check();

    public static void main(String[] args) {
        sheets();
        cells();
        orders();
        ordersRefusedInTurn();
        takenForKinds();
        rowsAndDivisions();
        shorts();
        bytes();
        rowsOfShut();
        forgeRefused();
        questionsLeaveTheStatus();
        check.end();
    }

    private static void sheets() {
        WishLine x = new WishLine();
        check.done(x, "sheet(0, 0, 0)", x.sheet(0, 0, 0), 1);
        check.done(x, "sheet(3, 2, 40)", x.sheet(3, 2, 40), 1);
        check.refused(x, "sheet(0, 0, 41)", x.sheet(0, 0, 41), 1);
        check.refused(x, "sheet(0, 0, -1)", x.sheet(0, 0, -1), 1);
        check.refused(x, "sheet(0, 3, 1)", x.sheet(0, 3, 1), 1);
        check.refused(x, "sheet(0, -2, 1)", x.sheet(0, -2, 1), 1);
        check.refused(x, "sheet(4, 0, 1)", x.sheet(4, 0, 1), 1);
        check.refused(x, "sheet(-1, 0, 1)", x.sheet(-1, 0, 1), 1);
        check.refused(x, "sheet(4, -1, 1)", x.sheet(4, -1, 1), 1);
        check.done(x, "cell(3, 39, 1)", x.cell(3, 39, 1), 1);
        check.done(x, "sheet(3, -1, -99)", x.sheet(3, -1, -99), 1);
        check.refused(x, "cell(3, 39, 1) of a missing one", x.cell(3, 39, 1), 10);
        check.done(x, "sheet(2, -1, 99) of a missing one", x.sheet(2, -1, 99), 1);
        x.sheet(1, 1, 3);
        x.cell(1, 2, 9);
        check.done(x, "forge(2, 2, 1)", x.forge(2, 2, 1), 9);
        x.cell(1, 0, 8);
        x.sheet(1, 1, 4);
        check.done(x, "forge(2, 0, 1) of a new one", x.forge(2, 0, 1), 0);
        check.done(x, "forge(2, 2, 1) of a new one", x.forge(2, 2, 1), 0);
        x.sheet(3, 1, 40);
        x.cell(3, 39, 7);
        check.done(x, "forge(2, 39, 3)", x.forge(2, 39, 3), 7);
        x.sheet(3, 1, 40);
        check.done(x, "forge(2, 39, 3) of a new one", x.forge(2, 39, 3), 0);
    }

    private static void cells() {
        WishLine x = new WishLine();
        check.refused(x, "cell(0, 0, 0)", x.cell(0, 0, 0), 10);
        check.refused(x, "cell(0, -1, 0) of a missing one", x.cell(0, -1, 0), 10);
        x.sheet(0, 1, 3);
        check.refused(x, "cell(-1, 0, 0)", x.cell(-1, 0, 0), 1);
        check.refused(x, "cell(4, 0, 0)", x.cell(4, 0, 0), 1);
        check.refused(x, "cell(0, 0, 1001)", x.cell(0, 0, 1001), 1);
        check.refused(x, "cell(0, 0, -1001)", x.cell(0, 0, -1001), 1);
        check.refused(x, "cell(1, 0, 1001) of a missing one", x.cell(1, 0, 1001), 1);
        check.refused(x, "cell(0, 3, 0)", x.cell(0, 3, 0), 12);
        check.refused(x, "cell(0, -1, 0)", x.cell(0, -1, 0), 12);
        check.refused(x, "cell(0, max, 0)", x.cell(0, Integer.MAX_VALUE, 0), 12);
        check.refused(x, "cell(0, min, 0)", x.cell(0, Integer.MIN_VALUE, 0), 12);
        check.done(x, "cell(0, 0, 1000)", x.cell(0, 0, 1000), 1);
        check.done(x, "cell(0, 2, -1000)", x.cell(0, 2, -1000), 1);
        check.due("forge(2, 0, 0)", x.forge(2, 0, 0), 1000);
        check.due("forge(2, 2, 0)", x.forge(2, 2, 0), -1000);
        x.sheet(0, 0, 2);
        int[] told = {127, 128, 255, 256, -128, -129, 1000, -1000, 300};
        for (int v : told) {
            x.cell(0, 1, v);
            check.due("the byte of " + v, x.forge(3, 1, 0), (byte) v);
        }
    }

    private static void fill(WishLine x, int sheet, int from, int... numbers) {
        for (int i = 0; i < numbers.length; i++) {
            x.cell(sheet, from + i, numbers[i]);
        }
    }

    private static void orders() {
        WishLine x = Check.withLines(3);
        for (int sort = 0; sort <= 2; sort++) {
            x.sheet(sort, sort, 7);
            fill(x, sort, 2, 2, 3, 8, 1, 31);
            check.done(x, "order of sort " + sort, x.order(sort, sort, 2), sort);
            int[] want = {2, 3, 8, 1, 31, 1};
            for (int what = 0; what < 6; what++) {
                check.due("wishTold", x.wishTold(sort, what), want[what]);
            }
        }
        check.refused(x, "order(0, 0, 3)", x.order(0, 0, 3), 12);
        check.refused(x, "order(0, 0, -1)", x.order(0, 0, -1), 12);
        check.refused(x, "order(0, 0, max)", x.order(0, 0, Integer.MAX_VALUE), 12);
        check.refused(x, "order(0, 0, min)", x.order(0, 0, Integer.MIN_VALUE), 12);
        int[][] wrong = {
            {3, 0, 0, 0, 0}, {-1, 0, 0, 0, 0}, {0, 8, 0, 0, 0}, {0, 0, 10, 0, 0},
            {0, 0, 0, 3, 0}, {0, 0, 0, 0, 32}, {0, 1, 0, 0, 2}, {0, 1, 0, 0, 12},
        };
        for (int[] w : wrong) {
            fill(x, 2, 0, w);
            check.refused(x, "order of " + java.util.Arrays.toString(w), x.order(2, 2, 0), 3);
        }
        check.due("count(1)", x.count(1), 3);
        x.sheet(0, 0, 5);
        fill(x, 0, 0, 256, 257, 258, 512, 256 + 11);
        check.done(x, "order of bytes that are cut", x.order(0, 0, 0), 3);
        check.due("wishTold(3, 2)", x.wishTold(3, 2), 2);
        check.due("wishTold(3, 4)", x.wishTold(3, 4), 11);
    }

    private static void ordersRefusedInTurn() {
        WishLine x = Check.withLines(1);
        x.sheet(0, 0, 5);
        check.refused(x, "order(4, 0, 0)", x.order(4, 0, 0), 1);
        check.refused(x, "order(-1, 0, 0)", x.order(-1, 0, 0), 1);
        check.refused(x, "order(0, 3, 0)", x.order(0, 3, 0), 1);
        check.refused(x, "order(0, -1, 0)", x.order(0, -1, 0), 1);
        check.refused(x, "order(1, 0, -1)", x.order(1, 0, -1), 10);
        check.refused(x, "order(0, 1, -1)", x.order(0, 1, -1), 11);
        check.refused(x, "order(0, 2, 0)", x.order(0, 2, 0), 11);
        for (int i = 0; i < 24; i++) {
            check.done(x, "order(0, 0, 0)", x.order(0, 0, 0), i);
        }
        check.refused(x, "order with no room", x.order(0, 0, 0), 2);
        check.refused(x, "order with no room, missing", x.order(1, 0, 0), 2);
        check.refused(x, "order with no room, another sort", x.order(0, 1, 0), 2);
        check.refused(x, "order with no room, outside", x.order(0, 0, 9), 2);
        check.refused(x, "order with no room, no such sheet", x.order(9, 0, 0), 1);
        x.cell(0, 0, 5);
        check.refused(x, "order with no room, telling none", x.order(0, 0, 0), 2);
    }

    private static void takenForKinds() {
        WishLine x = Check.withLines(1);
        for (int kind = 0; kind < 8; kind++) {
            x.wish(0, kind, 0, 0, 0);
        }
        for (int wish = 0; wish < 8; wish++) {
            for (int kind = 0; kind < 8; kind++) {
                boolean is = kind == 0 || kind == wish || kind == 2 && wish == 3;
                for (int n = kind - 96; n <= 100; n += 8) {
                    String call = "forge(0, " + n + ", " + wish + ")";
                    int got = x.forge(0, n, wish);
                    if (is) {
                        check.done(x, call, got, wish);
                    } else {
                        check.refused(x, call, got, 11);
                    }
                }
            }
        }
        check.done(x, "forge(0, 0, -22)", x.forge(0, 0, -22), 2);
        check.done(x, "forge(0, 0, 51)", x.forge(0, 0, 51), 3);
        check.refused(x, "forge(0, 0, 8)", x.forge(0, 0, 8), 10);
        check.refused(x, "forge(0, 3, -1)", x.forge(0, 3, -1), 10);
        x.on(3, false);
        check.done(x, "forge(0, 2, 3) of one that is not on", x.forge(0, 2, 3), 3);
    }

    private static void rowsAndDivisions() {
        WishLine x = new WishLine();
        check.done(x, "forge(1, 0, 0)", x.forge(1, 0, 0), 0);
        check.done(x, "forge(1, 100, 0)", x.forge(1, 100, 0), 100);
        check.refused(x, "forge(1, -1, 0)", x.forge(1, -1, 0), 13);
        check.refused(x, "forge(1, -100, 0)", x.forge(1, -100, 0), 13);
        check.done(x, "forge(5, 3, 0)", x.forge(5, 3, 0), 333);
        check.done(x, "forge(5, -7, 0)", x.forge(5, -7, 0), -142);
        check.refused(x, "forge(5, 0, 0)", x.forge(5, 0, 0), 15);
        for (int n = -4; n <= 4; n++) {
            if ((n & 1) == 0) {
                check.refused(x, "forge(6, " + n + ", 0)", x.forge(6, n, 0), 10);
            } else {
                check.done(x, "forge(6, " + n + ", 0)", x.forge(6, n, 0), 1);
            }
        }
    }

    private static void shorts() {
        WishLine x = new WishLine();
        check.refused(x, "forge(2, 0, 0) of a missing one", x.forge(2, 0, 0), 10);
        check.refused(x, "forge(2, -1, 0) of a missing one", x.forge(2, -1, 0), 10);
        x.sheet(0, 0, 3);
        x.sheet(1, 1, 3);
        x.sheet(2, 2, 3);
        x.cell(1, 2, -999);
        check.refused(x, "forge(2, 0, 0) of bytes", x.forge(2, 0, 0), 11);
        check.refused(x, "forge(2, 9, 0) of bytes", x.forge(2, 9, 0), 11);
        check.refused(x, "forge(2, 0, 2) of ints", x.forge(2, 0, 2), 11);
        check.done(x, "forge(2, 2, 1)", x.forge(2, 2, 1), -999);
        check.done(x, "forge(2, 2, -3)", x.forge(2, 2, -3), -999);
        check.done(x, "forge(2, 2, 97)", x.forge(2, 2, 97), -999);
        check.refused(x, "forge(2, 3, 1)", x.forge(2, 3, 1), 12);
        check.refused(x, "forge(2, -1, 1)", x.forge(2, -1, 1), 12);
        check.refused(x, "forge(2, 0, 3)", x.forge(2, 0, 3), 10);
    }

    private static void bytes() {
        WishLine x = new WishLine();
        check.refused(x, "forge(3, 0, 0) of a missing one", x.forge(3, 0, 0), 10);
        check.refused(x, "forge(3, -1, 0) of a missing one", x.forge(3, -1, 0), 10);
        x.sheet(1, 1, 9);
        check.refused(x, "forge(3, 0, 1) of shorts", x.forge(3, 0, 1), 11);
        check.refused(x, "forge(3, -1, 1) of shorts", x.forge(3, -1, 1), 11);
        x.sheet(0, 0, 4);
        fill(x, 0, 0, 1, 20, -5, 100);
        check.done(x, "forge(3, 0, 0)", x.forge(3, 0, 0), 0);
        check.done(x, "forge(3, 1, 0)", x.forge(3, 1, 0), 20);
        check.done(x, "forge(3, 2, -4)", x.forge(3, 2, -4), 15);
        check.done(x, "forge(3, 3, 4)", x.forge(3, 3, 4), 115);
        check.refused(x, "forge(3, 4, 0)", x.forge(3, 4, 0), 12);
        check.refused(x, "forge(3, -1, 0)", x.forge(3, -1, 0), 12);
        x.sheet(0, 0, 40);
        check.refused(x, "forge(3, 4, 0) of a long one", x.forge(3, 4, 0), 12);
        check.done(x, "forge(3, 3, 0) of a long one", x.forge(3, 3, 0), 0);
        x.sheet(0, 0, 3);
        check.refused(x, "forge(3, 3, 0) of a short one", x.forge(3, 3, 0), 12);
        check.done(x, "forge(3, 2, 0) of a short one", x.forge(3, 2, 0), 0);
        x.sheet(0, 0, 1);
        check.done(x, "forge(3, 0, 0) of one number", x.forge(3, 0, 0), 0);
        check.refused(x, "forge(3, 1, 0) of one number", x.forge(3, 1, 0), 12);
        x.sheet(0, 0, 0);
        check.refused(x, "forge(3, 0, 0) of no numbers", x.forge(3, 0, 0), 12);
    }

    private static void rowsOfShut() {
        WishLine x = Check.withLines(1);
        for (int kind = 0; kind < 8; kind++) {
            x.wish(0, kind, 0, 0, 0);
        }
        for (int kind = 0; kind < 8; kind++) {
            if (kind == 2 || kind == 3) {
                check.done(x, "forge(4, 0, " + kind + ")", x.forge(4, 0, kind), kind);
            } else {
                check.refused(x, "forge(4, 0, " + kind + ")", x.forge(4, 0, kind), 14);
            }
        }
        check.done(x, "forge(4, 0, 8)", x.forge(4, 0, 8), 0);
        check.done(x, "forge(4, 0, -1)", x.forge(4, 0, -1), 0);
        check.done(x, "forge(4, 0, -21)", x.forge(4, 0, -21), 3);
    }

    private static void forgeRefused() {
        WishLine x = new WishLine();
        check.done(x, "forge(1, 5, 100)", x.forge(1, 5, 100), 5);
        check.done(x, "forge(1, 5, -100)", x.forge(1, 5, -100), 5);
        check.done(x, "forge(5, 100, 0)", x.forge(5, 100, 0), 10);
        check.done(x, "forge(5, -100, 0)", x.forge(5, -100, 0), -10);
        check.refused(x, "forge(7, 0, 0)", x.forge(7, 0, 0), 1);
        check.refused(x, "forge(-1, 0, 0)", x.forge(-1, 0, 0), 1);
        for (int what = 0; what < 7; what++) {
            check.refused(x, "forge(" + what + ", 101, 0)", x.forge(what, 101, 0), 1);
            check.refused(x, "forge(" + what + ", -101, 0)", x.forge(what, -101, 0), 1);
            check.refused(x, "forge(" + what + ", 1, 101)", x.forge(what, 1, 101), 1);
            check.refused(x, "forge(" + what + ", 1, -101)", x.forge(what, 1, -101), 1);
        }
    }

    private static void questionsLeaveTheStatus() {
        WishLine x = Check.withLines(2);
        x.wish(0, 1, 0, 1, 0);
        check.refused(x, "forge(5, 0, 0)", x.forge(5, 0, 0), 15);
        x.wishTold(0, 0);
        x.lineTold(9, 0);
        x.call(0, 0);
        x.row(0, 0);
        x.piece(0, 0);
        x.acted(0, 0);
        x.tells(0, 0);
        x.backs(0, 0);
        x.actOf(0);
        x.alone(0, 0, 1, 3, 2);
        x.alone(9, 0, 1, 3, 2);
        x.peace(0, 0, 0, 1, 3, 2);
        x.peace(9, 0, 0, 1, 3, 2);
        x.count(0);
        x.trace(0);
        x.status();
        check.due("status()", x.status(), 15);
        check.done(x, "line()", x.line(), 2);
    }
}
