/** Images at their edges: promises 10 and 11. */
public final class ImageEdgesTest {
    private static final Check check = new Check();

    public static void main(String[] args) {
        imageOfAnEmptyHouse();
        imageKeepsAll();
        imageOfAFullHouse();
        imageOfBacks();
        imageOfActs();
        callsAreNewAgain();
        imageInPlaceOfOneBefore();
        imageKeepsNoSheets();
        imageKeepsNoTrace();
        imageKeepsNoCase();
        imageKeepsNoCount();
        restoreWithoutImage();
        restoreTenTimes();
        refusedOnesDoNotCount();
        imageStays();
        roomsAreAsTheyWere();
        hourIsAsItWas();
        check.end();
    }

    /** Promise 10, image: "is kept as an IMAGE": of a house with nothing in it. */
    private static void imageOfAnEmptyHouse() {
        WishLine x = new WishLine();
        check.done(x, "image()", x.image(), 1);
        x.line();
        x.wish(0, Kind.BACK, 0, 0, 0);
        x.dial(0, 0);
        x.tick();
        check.done(x, "restore()", x.restore(), 0);
        for (int what = 0; what <= 5; what++) {
            check.due("count(" + what + ")", x.count(what), 0);
        }
        check.due("lineTold(0, 0)", x.lineTold(0, 0), -1);
        check.due("wishTold(0, 0)", x.wishTold(0, 0), -1);
        check.due("call(0, 0)", x.call(0, 0), -1);
        check.due("backs(0, 0)", x.backs(0, 0), -1);
        check.refused(x, "dial(0, 0)", x.dial(0, 0), 1);
        check.done(x, "line()", x.line(), 0);
    }

    private static WishLine busyHouse() {
        WishLine x = Check.withLines(6);
        x.wish(0, Kind.BACK, 1, 2, 3);
        x.wish(1, Kind.WAITING, 2, 0, 0);
        x.wish(1, Kind.SHARED, 3, 3, 0);
        x.wish(5, Kind.ONWARD, 3, 3, 5);
        x.on(2, false);
        x.dial(2, 1);
        x.take(1);
        x.dial(3, 1);
        x.dial(0, 2);
        x.dial(4, 5);
        x.tick();
        x.tick();
        return x;
    }

    private static WishLine changed(WishLine x) {
        x.line();
        x.wish(0, Kind.HIDDEN, 0, 0, 0);
        x.on(2, true);
        x.on(0, false);
        x.rank(0, 9);
        x.down(2);
        x.take(1);
        x.tick();
        x.tick();
        x.dial(2, 2);
        x.down(3);
        return x;
    }

    /**
     * Promise 10, image: "All (but SHEETS, THE TRACE, THE CASE, how often it was restored) is kept as an IMAGE, in
     * place of one before: 1."
     */
    private static void imageKeepsAll() {
        int[] before = AllAnswers.of(ImageEdgesTest::busyHouse);
        int[] then = AllAnswers.of(() -> {
            WishLine x = busyHouse();
            x.image();
            changed(x);
            check.done(x, "restore()", x.restore(), 2);
            return x;
        });
        check.dueSame("behind restore()", then, before);
        int[] whatFollows = AllAnswers.of(() -> changed(busyHouse()));
        int[] whatFollowsAgain = AllAnswers.of(() -> {
            WishLine x = busyHouse();
            x.image();
            changed(x);
            x.restore();
            return changed(x);
        });
        check.dueSame("what follows restore()", whatFollowsAgain, whatFollows);
    }

    private static WishLine fullHouse() {
        WishLine x = Check.withLines(8);
        for (int i = 0; i < 24; i++) {
            x.wish(i % 8, i < 8 ? Kind.BACK : i < 16 ? Kind.SHARED : Kind.PAID, 9, (i + 1) % 8, 31);
        }
        for (int i = 0; i < 57; i++) {
            x.dial(i % 8, i % 8);
        }
        x.dial(7, 6);
        x.take(6);
        x.dial(0, 1);
        x.dial(3, 4);
        return x;
    }

    /**
     * Promise 10, image: "All (but SHEETS, THE TRACE, THE CASE, how often it was restored) is kept": all rooms are
     * full.
     */
    private static void imageOfAFullHouse() {
        int[] before = AllAnswers.of(ImageEdgesTest::fullHouse);
        int[] then = AllAnswers.of(() -> {
            WishLine x = fullHouse();
            x.image();
            x.tick();
            x.down(7);
            x.down(0);
            x.take(4);
            x.on(23, false);
            x.rank(22, 0);
            x.restore();
            return x;
        });
        check.dueSame("of a full house", then, before);
        WishLine x = fullHouse();
        int[] full = {8, 24, 60, 0, 8, 3};
        for (int what = 0; what < 6; what++) {
            check.due("count(" + what + ")", x.count(what), full[what]);
        }
    }

    /** Promise 11, restore: "All is as the IMAGE has it": the wishes back, though others stand in their places now. */
    private static void imageOfBacks() {
        WishLine x = Check.withLines(8);
        for (int line = 0; line < 8; line++) {
            x.wish(line, Kind.BACK, 0, 0, 0);
        }
        x.dial(2, 3);
        x.take(3);
        x.dial(0, 2);
        x.dial(1, 3);
        x.dial(0, 3);
        x.image();
        x.down(2);
        x.tick();
        x.down(0);
        x.down(1);
        x.tick();
        x.down(0);
        for (int line = 7; line >= 0; line--) {
            x.dial(line, line);
        }
        check.dueBacks(x, 7, 7, 6, 6, 5, 5, 4, 4, 3, 3, 2, 2, 1, 1, 0, 0);
        x.restore();
        check.dueBacks(x, 0, 2, 1, 3, 0, 3);
    }

    /** Promise 11, restore: "All is as the IMAGE has it": another wish acts now, at the place of one that acted behind the image. */
    private static void imageOfActs() {
        WishLine x = Check.withLines(5);
        x.wish(3, Kind.WISH, 0, 0, 0);
        x.wish(1, Kind.ONWARD, 0, 2, 3);
        x.wish(1, Kind.ONWARD, 1, 3, 3);
        x.dial(0, 1);
        x.image();
        x.tick();
        check.dueActed(x, 0, 1);
        check.dueRow(x, 0, 1, 2);
        x.restore();
        check.dueActed(x, 0);
        check.dueRow(x, 0, 1);
        x.on(1, false);
        x.tick();
        check.dueActed(x, 0, 2);
        check.dueRow(x, 0, 1, 3);
        check.duePieces(x, 0, 0, 1);
    }

    /** Promise 11, restore: "All is as the IMAGE has it": a call that comes then is new, whatever one of its number was before. */
    private static void callsAreNewAgain() {
        WishLine x = Check.withLines(4);
        x.wish(1, Kind.ONWARD, 0, 2, 0);
        x.wish(2, Kind.ONWARD, 0, 3, 4);
        x.wish(3, Kind.WISH, 0, 0, 0);
        x.wish(2, Kind.ONWARD, 0, 3, 0);
        x.on(3, false);
        x.image();
        x.dial(0, 1);
        x.tick();
        x.tick();
        x.tick();
        x.take(3);
        x.down(0);
        check.dueCall(x, 0, 0, 3, 4, 3, 0, -1, 1, 2);
        x.restore();
        check.dueCall(x, 0, -1);
        x.on(0, false);
        x.dial(3, 1);
        check.dueCall(x, 0, 3, 0, 0, 1, 2, -1, 0, 0);
        check.dueRow(x, 0, 1);
        check.duePieces(x, 0, 3);
        check.dueActed(x, 0);
        x.restore();
        x.dial(1, 0);
        x.take(0);
        x.restore();
        x.dial(3, 3);
        check.dueCall(x, 0, 3, 3, 3, 1, 0, -1, 0, 0);
        x.restore();
        x.on(3, true);
        x.dial(0, 2);
        check.dueCall(x, 0, 0, 0, 0, 2, 8, -1, 0, 1);
        check.dueActed(x, 0, 3);
        x.tick();
        x.restore();
        x.dial(3, 3);
        check.dueCall(x, 0, 3, 3, 3, 1, 0, -1, 0, 0);
        x.restore();
        x.dial(0, 1);
        check.dueActed(x, 0, 0);
    }

    /** Promise 10, image: "is kept as an IMAGE, in place of one before: 1.": the one before is gone. */
    private static void imageInPlaceOfOneBefore() {
        WishLine x = Check.withLines(2);
        x.dial(0, 1);
        x.image();
        x.tick();
        x.down(0);
        check.done(x, "image() again", x.image(), 1);
        x.tick();
        check.done(x, "restore()", x.restore(), 1);
        check.due("call(0, 1)", x.call(0, 1), 3);
        check.done(x, "restore() again", x.restore(), 1);
    }

    /**
     * Promise 10, image: "All (but SHEETS, THE TRACE, THE CASE, how often it was restored)": sheets stay as they
     * are.
     */
    private static void imageKeepsNoSheets() {
        WishLine x = Check.withLines(1);
        x.sheet(0, 1, 2);
        x.cell(0, 1, 5);
        x.sheet(1, 1, 2);
        x.image();
        x.cell(0, 1, 6);
        x.sheet(1, -1, 0);
        x.sheet(2, 1, 1);
        x.restore();
        check.done(x, "the number that changed", x.forge(2, 1, 0), 6);
        check.refused(x, "the sheet that is missing now", x.forge(2, 0, 1), 10);
        check.done(x, "the sheet that came", x.forge(2, 0, 2), 0);
    }

    /** Promise 10, image: "All (but SHEETS, THE TRACE, THE CASE, how often it was restored)": the trace stays. */
    private static void imageKeepsNoTrace() {
        WishLine x = Check.withLines(1);
        x.wish(0, 0, 0, 0, 0);
        x.image();
        x.act(0, 3, 1);
        x.restore();
        check.dueTrace(x, 13, 11, 10, 12);
        x.act(0, 0, 1);
        x.image();
        check.dueTrace(x, 10);
    }

    /** Promise 10, image: "All (but SHEETS, THE TRACE, THE CASE, how often it was restored)": the case stays. */
    private static void imageKeepsNoCase() {
        WishLine x = new WishLine();
        x.image();
        x.line();
        x.line();
        x.judge(0, 0, 1, 3, 2);
        x.restore();
        check.dueCase(x, 1001, 2010);
    }

    /**
     * Promise 10, image: "how often it was restored": an image that is taken between does not begin the count
     * anew.
     */
    private static void imageKeepsNoCount() {
        WishLine x = new WishLine();
        for (int i = 0; i < 10; i++) {
            x.image();
            check.done(x, "restore()", x.restore(), 0);
        }
        x.image();
        check.refused(x, "the 11th restore()", x.restore(), 2);
    }

    /** Promise 11, restore: "STATUS 2 (this was done 10 times), 3 (there is none).": 3, there is no image. */
    private static void restoreWithoutImage() {
        WishLine x = Check.withLines(1);
        check.refused(x, "restore()", x.restore(), 3);
        check.due("count(0)", x.count(0), 1);
        check.done(x, "image()", x.image(), 1);
        check.done(x, "restore()", x.restore(), 0);
    }

    /**
     * Promise 11, restore: "STATUS 2 (this was done 10 times), 3 (there is none).": 2, the tenth is done, the
     * eleventh is not.
     */
    private static void restoreTenTimes() {
        WishLine x = Check.withLines(1);
        x.tick();
        x.image();
        for (int i = 0; i < 10; i++) {
            x.tick();
            check.done(x, "restore()", x.restore(), 1);
        }
        x.tick();
        x.tick();
        check.refused(x, "the 11th restore()", x.restore(), 2);
        check.due("count(3)", x.count(3), 3);
        check.done(x, "image()", x.image(), 1);
        check.refused(x, "the 12th restore()", x.restore(), 2);
    }

    /** Promise 11, restore: "(this was done 10 times)": those that were refused were not done. */
    private static void refusedOnesDoNotCount() {
        WishLine x = new WishLine();
        for (int i = 0; i < 11; i++) {
            check.refused(x, "restore()", x.restore(), 3);
        }
        x.image();
        for (int i = 0; i < 10; i++) {
            check.done(x, "restore()", x.restore(), 0);
        }
        check.refused(x, "the 11th restore()", x.restore(), 2);
    }

    /**
     * Promise 11, restore: "All is as the IMAGE has it, which stays: THE TICK.": what comes behind it does not
     * change the image.
     */
    private static void imageStays() {
        WishLine x = Check.withLines(3);
        x.wish(1, Kind.ONWARD, 2, 2, 3);
        x.dial(0, 1);
        x.tick();
        x.down(0);
        x.dial(0, 1);
        x.image();
        for (int i = 0; i < 3; i++) {
            x.tick();
            check.due("call(1, 4)", x.call(1, 4), 4);
            x.take(2);
            x.tick();
            x.rank(0, 9 - i);
            x.on(0, false);
            check.done(x, "restore()", x.restore(), 1);
            check.due("wishTold(0, 2)", x.wishTold(0, 2), 2);
            check.due("wishTold(0, 5)", x.wishTold(0, 5), 1);
            check.due("lineTold(0, 2)", x.lineTold(0, 2), 0);
            check.dueCall(x, 1, 0, 0, 0, 1, 2, -1, 0, 0);
        }
    }

    /** Promise 11, restore: "All is as the IMAGE has it": also what room there is, so the same numbers come again. */
    private static void roomsAreAsTheyWere() {
        WishLine x = Check.withLines(7);
        for (int i = 0; i < 23; i++) {
            x.wish(0, 0, 0, 0, 0);
        }
        for (int i = 0; i < 59; i++) {
            x.dial(0, 0);
        }
        x.image();
        for (int i = 0; i < 2; i++) {
            check.done(x, "line()", x.line(), 7);
            check.refused(x, "line()", x.line(), 2);
            check.done(x, "wish()", x.wish(0, 0, 0, 0, 0), 23);
            check.refused(x, "wish()", x.wish(0, 0, 0, 0, 0), 2);
            check.done(x, "dial()", x.dial(0, 0), 59);
            check.refused(x, "dial()", x.dial(0, 0), 2);
            check.done(x, "restore()", x.restore(), 0);
        }
    }

    /** Promise 11, restore: "All is as the IMAGE has it, which stays: THE TICK.": the hour is that of its tick. */
    private static void hourIsAsItWas() {
        WishLine x = Check.withLines(2);
        x.wish(1, Kind.SHUT, 0, 0, 1);
        for (int i = 0; i < 11; i++) {
            x.tick();
        }
        x.image();
        x.tick();
        x.dial(0, 1);
        check.due("at 12", x.call(0, 2), 0);
        check.done(x, "restore()", x.restore(), 11);
        x.dial(0, 1);
        check.due("at 11", x.call(0, 2), 1);
    }
}
