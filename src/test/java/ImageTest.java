/** Promises 10 and 11: what an image keeps, and what it does not. */
public final class ImageTest {
    private static final Check check = new Check();

    public static void main(String[] args) {
        noImage();
        allIsKept();
        someIsNotKept();
        tenTimes();
        aLaterImage();
        check.end();
    }

    private static void noImage() {
        WishLine x = Check.withLines(2);
        check.refused(x, "restore()", x.restore(), 3);
        check.done(x, "image()", x.image(), 1);
        check.done(x, "restore()", x.restore(), 0);
    }

    private static WishLine filled() {
        WishLine x = Check.withLines(4);
        x.wish(0, 5, 1, 2, 3);
        x.wish(1, 4, 2, 0, 0);
        x.wish(1, 6, 3, 3, 0);
        x.on(2, false);
        x.dial(0, 1);
        x.take(1);
        x.dial(2, 1);
        x.tick();
        x.tick();
        return x;
    }

    private static void allIsKept() {
        WishLine x = filled();
        int[] before = AllAnswers.of(x);
        check.done(x, "image()", x.image(), 1);
        x.line();
        x.wish(0, 3, 0, 0, 0);
        x.on(2, true);
        x.rank(0, 9);
        x.down(0);
        x.dial(3, 3);
        x.dial(0, 1);
        x.tick();
        check.done(x, "restore()", x.restore(), 2);
        int[] then = AllAnswers.of(x);
        for (int i = 0; i < before.length; i++) {
            check.due("answer " + i + " behind restore()", then[i], before[i]);
        }
        x.down(0);
        x.tick();
        x.tick();
        check.done(x, "restore() again", x.restore(), 2);
        int[] again = AllAnswers.of(x);
        for (int i = 0; i < before.length; i++) {
            check.due("answer " + i + " behind restore() again", again[i], before[i]);
        }
        check.done(x, "down(0)", x.down(0), 0);
        check.due("call(1, 1)", x.call(1, 1), 0);
        check.done(x, "wish()", x.wish(3, 0, 0, 0, 0), 3);
        check.done(x, "line()", x.line(), 4);
    }

    private static void someIsNotKept() {
        WishLine x = filled();
        x.judge(0, 0, 1, 3, 2);
        x.act(0, 0, 1);
        x.image();
        x.sheet(1, 1, 7);
        x.cell(1, 6, 55);
        x.act(0, 3, 1);
        int ran = x.count(7);
        x.judge(0, 0, 0, 3, 2);
        x.restore();
        check.due("forge(2, 6, 1)", x.forge(2, 6, 1), 55);
        check.due("count(7)", x.count(7), ran);
        check.due("trace(0)", x.trace(0), 13);
        check.due("count(6)", x.count(6), 0);
        check.due("actOf(0)", x.actOf(0), -1);
    }

    private static void tenTimes() {
        WishLine x = filled();
        x.image();
        for (int i = 0; i < 10; i++) {
            check.done(x, "restore()", x.restore(), 2);
            x.image();
        }
        x.tick();
        check.refused(x, "the 11th restore()", x.restore(), 2);
        check.due("count(3)", x.count(3), 3);
        check.done(x, "image()", x.image(), 1);
    }

    private static void aLaterImage() {
        WishLine x = Check.withLines(2);
        x.image();
        x.tick();
        x.dial(0, 1);
        x.image();
        x.tick();
        x.down(0);
        check.done(x, "restore()", x.restore(), 1);
        check.due("lineTold(1, 3)", x.lineTold(1, 3), 1);
    }
}
