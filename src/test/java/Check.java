/** Prints every answer that is not the one that is due, and ends with exit code 1 if there was one. */
final class Check {
    private int wrong;
    private int asked;

    void due(String call, long got, long want) {
        asked++;
        if (got != want) {
            wrong++;
            System.out.println(placeInTest() + call + " answered " + got + ", due is " + want);
        }
    }

    /** A call that was refused answers -1 and leaves its status. */
    void refused(WishLine x, String call, int got, int status) {
        due(call, got, -1);
        due(call + " then status()", x.status(), status);
    }

    /** A call that was done answers as told and leaves the status 0. */
    void done(WishLine x, String call, int got, int want) {
        due(call, got, want);
        due(call + " then status()", x.status(), 0);
    }

    /** What call() tells of a call, from 0 on. */
    void dueCall(WishLine x, int call, int... want) {
        for (int what = 0; what < want.length; what++) {
            due("call(" + call + ", " + what + ")", x.call(call, what), want[what]);
        }
    }

    void dueRow(WishLine x, int call, int... want) {
        due("call(" + call + ", 3)", x.call(call, 3), want.length);
        for (int i = 0; i < want.length; i++) {
            due("row(" + call + ", " + i + ")", x.row(call, i), want[i]);
        }
        due("row(" + call + ", behind)", x.row(call, want.length), -1);
        due("row(" + call + ", -1)", x.row(call, -1), -1);
    }

    void duePieces(WishLine x, int call, int... want) {
        for (int i = 0; i < want.length; i++) {
            due("piece(" + call + ", " + i + ")", x.piece(call, i), want[i]);
        }
        due("piece(" + call + ", behind)", x.piece(call, want.length), -1);
        due("piece(" + call + ", -1)", x.piece(call, -1), -1);
    }

    void dueActed(WishLine x, int call, int... want) {
        due("call(" + call + ", 7)", x.call(call, 7), want.length);
        for (int i = 0; i < want.length; i++) {
            due("acted(" + call + ", " + i + ")", x.acted(call, i), want[i]);
        }
        due("acted(" + call + ", behind)", x.acted(call, want.length), -1);
        due("acted(" + call + ", -1)", x.acted(call, -1), -1);
    }

    /** The wishes back, each by its first and its second line. */
    void dueBacks(WishLine x, int... lines) {
        due("count(4)", x.count(4), lines.length / 2);
        for (int i = 0; i < lines.length; i++) {
            due("backs(" + i / 2 + ", " + i % 2 + ")", x.backs(i / 2, i % 2), lines[i]);
        }
        due("backs(behind, 0)", x.backs(lines.length / 2, 0), -1);
        due("backs(-1, 0)", x.backs(-1, 0), -1);
    }

    void dueCase(WishLine x, int... acts) {
        due("count(6)", x.count(6), acts.length);
        for (int i = 0; i < acts.length; i++) {
            due("actOf(" + i + ")", x.actOf(i), acts[i]);
        }
        due("actOf(behind)", x.actOf(acts.length), -1);
        due("actOf(-1)", x.actOf(-1), -1);
        due("actOf(3)", x.actOf(3), -1);
    }

    void dueTrace(WishLine x, int... bodies) {
        due("count(7)", x.count(7), bodies.length);
        for (int i = 0; i < bodies.length; i++) {
            due("trace(" + i + ")", x.trace(i), bodies[i]);
        }
        due("trace(behind)", x.trace(bodies.length), -1);
        due("trace(-1)", x.trace(-1), -1);
    }

    /** The same answers to all questions. */
    void dueSame(String behind, int[] got, int[] want) {
        due(behind + ": how many answers", got.length, want.length);
        for (int i = 0; i < Math.min(got.length, want.length); i++) {
            due(behind + ": " + AllAnswers.question(i), got[i], want[i]);
        }
    }

    void end() {
        System.out.println(wrong == 0 ? asked + " answers are as due" : wrong + " answers are not as due");
        if (wrong != 0) {
            System.exit(1);
        }
    }

    static WishLine withLines(int n) {
        WishLine x = new WishLine();
        for (int i = 0; i < n; i++) {
            x.line();
        }
        return x;
    }

    /** The test's own method and line, so that a wrong answer leads to the remark that stands there. */
    private static String placeInTest() {
        for (StackTraceElement e : Thread.currentThread().getStackTrace()) {
            if (e.getClassName().endsWith("Test")) {
                return e.getClassName() + "." + e.getMethodName() + ":" + e.getLineNumber() + ": ";
            }
        }
        return "";
    }
}
