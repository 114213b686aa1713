/** Promises 10 and 11: what an image keeps, and what it does not. */
public final class ImageTest {
    private static final Check check = new Check();

    public static void main(String[] args) {
        noImage();
        allIsKept();
        someIsNotKept();
        tenTimes();
        aLaterImage();
        actsOfAnotherTurn();
        callsAgain();
        backsAreKept();
        fullHouse();
        check.end();
    }

    private static void noImage() {
        WishLine x = Check.withLines(2);
        check.refused(x, "restore()", x.restore(), 3);
        check.done(x, "image()", x.image(), 1);
        check.done(x, "restore()", x.restore(), 0);
    }

    private static WishLine filled() {
        WishLine x = Check.withLines(4);
        x.wish(0, 5, 1, 2, 3);
        x.wish(1, 4, 2, 0, 0);
        x.wish(1, 6, 3, 3, 0);
        x.on(2, false);
        x.dial(0, 1);
        x.take(1);
        x.dial(2, 1);
        x.tick();
        x.tick();
        return x;
    }

    private static void allIsKept() {
        WishLine x = filled();
        int[] before = AllAnswers.of(x);
        check.done(x, "image()", x.image(), 1);
        x.line();
        x.wish(0, 3, 0, 0, 0);
        x.on(2, true);
        x.rank(0, 9);
        x.down(0);
        x.dial(3, 3);
        x.dial(0, 1);
        x.tick();
        check.done(x, "restore()", x.restore(), 2);
        int[] then = AllAnswers.of(x);
        check.dueSame("behind restore()", then, before);
        x.down(0);
        x.tick();
        x.tick();
        check.done(x, "restore() again", x.restore(), 2);
        int[] again = AllAnswers.of(x);
        check.dueSame("behind restore() again", again, before);
        check.done(x, "down(0)", x.down(0), 0);
        check.due("call(1, 1)", x.call(1, 1), 0);
        check.done(x, "wish()", x.wish(3, 0, 0, 0, 0), 3);
        check.done(x, "line()", x.line(), 4);
    }

    private static void someIsNotKept() {
        WishLine x = filled();
        x.judge(0, 0, 1, 3, 2);
        x.act(0, 0, 1);
        x.image();
        x.sheet(1, 1, 7);
        x.cell(1, 6, 55);
        x.act(0, 3, 1);
        int ran = x.count(7);
        x.judge(0, 0, 0, 3, 2);
        x.restore();
        check.due("forge(2, 6, 1)", x.forge(2, 6, 1), 55);
        check.due("count(7)", x.count(7), ran);
        check.due("trace(0)", x.trace(0), 13);
        check.due("count(6)", x.count(6), 0);
        check.due("actOf(0)", x.actOf(0), -1);
    }

    private static void tenTimes() {
        WishLine x = filled();
        x.image();
        for (int i = 0; i < 10; i++) {
            check.done(x, "restore()", x.restore(), 2);
            x.image();
        }
        x.tick();
        check.refused(x, "the 11th restore()", x.restore(), 2);
        check.due("count(3)", x.count(3), 3);
        check.done(x, "image()", x.image(), 1);
    }

    /** What acted behind the image must not shine through when another wish acts there. */
    private static void actsOfAnotherTurn() {
        WishLine x = Check.withLines(4);
        x.wish(3, 0, 0, 0, 0);
        x.wish(1, 1, 0, 2, 3);
        x.wish(1, 1, 1, 3, 3);
        x.dial(0, 1);
        x.image();
        x.tick();
        check.due("acted(0, 0)", x.acted(0, 0), 1);
        x.restore();
        check.due("call(0, 7)", x.call(0, 7), 0);
        x.on(1, false);
        x.tick();
        check.due("acted(0, 0) of the other", x.acted(0, 0), 2);
        check.due("row(0, 1)", x.row(0, 1), 3);
        check.due("piece(0, 1)", x.piece(0, 1), 1);
    }

    /** A call behind restore() is as new, whatever one of its number was before. */
    private static void callsAgain() {
        WishLine x = Check.withLines(4);
        x.wish(1, 1, 0, 2, 0);
        x.wish(2, 1, 0, 3, 3);
        x.image();
        x.dial(0, 1);
        x.tick();
        x.tick();
        x.down(0);
        check.due("call(0, 7)", x.call(0, 7), 2);
        x.restore();
        check.due("count(2)", x.count(2), 0);
        check.due("call(0, 0)", x.call(0, 0), -1);
        x.on(1, false);
        x.dial(3, 3);
        int[] want = {3, 3, 3, 1, 0, -1, 0, 0};
        for (int what = 0; what < 8; what++) {
            check.due("call(0, " + what + ") again", x.call(0, what), want[what]);
        }
        check.due("row(0, 0)", x.row(0, 0), 3);
        check.due("row(0, 1)", x.row(0, 1), -1);
        check.due("acted(0, 0)", x.acted(0, 0), -1);
    }

    private static void backsAreKept() {
        WishLine x = Check.withLines(4);
        x.wish(0, 5, 0, 0, 0);
        x.dial(2, 3);
        x.dial(0, 2);
        x.dial(0, 3);
        x.image();
        x.down(2);
        x.tick();
        x.down(0);
        x.dial(0, 0);
        check.due("count(4)", x.count(4), 2);
        check.due("backs(0, 1)", x.backs(0, 1), 3);
        x.restore();
        int[] want = {0, 2, 0, 3};
        check.due("count(4)", x.count(4), 2);
        for (int i = 0; i < 4; i++) {
            check.due("backs(" + i / 2 + ", " + i % 2 + ")", x.backs(i / 2, i % 2), want[i]);
        }
    }

    /** All rooms are full: every call still answers. */
    private static void fullHouse() {
        WishLine x = Check.withLines(8);
        for (int i = 0; i < 24; i++) {
            x.wish(i % 8, i < 8 ? 5 : i < 16 ? 6 : 7, 9, (i + 1) % 8, 0);
        }
        x.dial(7, 6);
        x.take(6);
        for (int i = 0; i < 59; i++) {
            x.dial(i % 6, i % 12 < 6 ? 6 : 7);
        }
        check.due("count(1)", x.count(1), 24);
        check.due("count(2)", x.count(2), 60);
        check.due("count(4)", x.count(4), 8);
        check.refused(x, "dial(0, 1)", x.dial(0, 1), 2);
        int[] before = AllAnswers.of(x);
        x.image();
        x.tick();
        x.down(7);
        x.tick();
        check.due("count(4) with no room for calls", x.count(4), 8);
        check.done(x, "restore()", x.restore(), 0);
        int[] then = AllAnswers.of(x);
        check.dueSame("of a full house", then, before);
        check.done(x, "judge(0, 0, 7, 193, 3)", x.judge(0, 0, 7, 193, 3), 2);
        check.due("alone(0, 0, 7, 193, 3)", x.alone(0, 0, 7, 193, 3), -1);
        check.due("peace(23, 2, 0, 7, 193, 3)", x.peace(23, 2, 0, 7, 193, 3), -1);
        check.done(x, "act(23, 2, 10)", x.act(23, 2, 10), 2);
    }

    private static void aLaterImage() {
        WishLine x = Check.withLines(2);
        x.image();
        x.tick();
        x.dial(0, 1);
        x.image();
        x.tick();
        x.down(0);
        check.done(x, "restore()", x.restore(), 1);
        check.due("lineTold(1, 3)", x.lineTold(1, 3), 1);
    }
}
