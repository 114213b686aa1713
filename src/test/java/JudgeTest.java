/** Promises 20 to 23: the judge, the case, single wishes, and ranks that make peace. */
public final class JudgeTest {
    private static final Check check = new Check();

    public static void main(String[] args) {
        speaking();
        paying();
        telling();
        likeLines();
        theCaseIsTheLeast();
        deeperCases();
        hangingUp();
        beginsAnew();
        refused();
        theCaseStays();
        alone();
        peace();
        noQuestionChangesAnything();
        check.end();
    }

    private static void speaking() {
        WishLine x = Check.withLines(3);
        check.done(x, "judge(0, 0, 1, 3, 1)", x.judge(0, 0, 1, 3, 1), 0);
        check.dueCase(x);
        check.done(x, "judge(0, 0, 1, 3, 2)", x.judge(0, 0, 1, 3, 2), 2);
        check.dueCase(x, 1001, 2010);
        check.done(x, "judge(0, 1, 0, 3, 3)", x.judge(0, 1, 0, 3, 3), 2);
        check.dueCase(x, 1001, 2010);
        x.wish(1, Kind.SHUT, 0, 0, 3);
        check.done(x, "judge with 0 shut out", x.judge(0, 0, 1, 3, 2), 2);
        check.dueCase(x, 1010, 2000);
        x.wish(0, Kind.SHUT, 0, 1, 3);
        check.done(x, "judge with both shut out", x.judge(0, 0, 1, 7, 3), 0);
        x.wish(2, Kind.ONWARD, 0, 1, 0);
        check.done(x, "judge with a way round", x.judge(0, 0, 1, 7, 3), 0);
        x.on(0, false);
        x.wish(1, Kind.SHUT, 0, 2, 3);
        check.done(x, "judge without the shut", x.judge(0, 0, 1, 5, 3), 0);
        check.done(x, "judge by 2", x.judge(0, 0, 1, 7, 3), 2);
        check.dueCase(x, 1001, 2010);
    }

    private static void paying() {
        WishLine x = Check.withLines(3);
        check.done(x, "judge(1, 0, 99, 3, 3)", x.judge(1, 0, 99, 3, 3), 3);
        check.dueCase(x, 1001, 2010, 4000);
        check.done(x, "judge(1, 0, -5, 3, 2)", x.judge(1, 0, -5, 3, 2), 0);
        x.wish(1, Kind.PAID, 0, 0, 0);
        check.done(x, "judge(1, 0, 0, 3, 3), paid", x.judge(1, 0, 0, 3, 3), 0);
        check.done(x, "judge(1, 1, 0, 3, 3), paid", x.judge(1, 1, 0, 3, 3), 3);
        check.dueCase(x, 1001, 2010, 4000);
        check.done(x, "judge(1, 2, 0, 3, 3)", x.judge(1, 2, 0, 3, 3), 0);
        check.done(x, "judge(1, 2, 0, 6, 3)", x.judge(1, 2, 0, 6, 3), 0);
        check.done(x, "judge(1, 2, 0, 5, 3)", x.judge(1, 2, 0, 5, 3), 3);
        check.dueCase(x, 1020, 2000, 4000);
    }

    private static void telling() {
        WishLine x = Check.withLines(3);
        check.done(x, "judge(2, 0, 1, 3, 1)", x.judge(2, 0, 1, 3, 1), 1);
        check.dueCase(x, 1001);
        check.done(x, "judge(2, 0, 2, 3, 3)", x.judge(2, 0, 2, 3, 3), 0);
        x.wish(1, Kind.ONWARD, 0, 2, 4);
        check.done(x, "judge(2, 0, 2, 3, 2)", x.judge(2, 0, 2, 3, 2), 0);
        check.done(x, "judge(2, 0, 2, 3, 3)", x.judge(2, 0, 2, 3, 3), 3);
        check.dueCase(x, 1001, 4000, 4000);
        check.done(x, "judge(2, 1, 2, 3, 3)", x.judge(2, 1, 2, 3, 3), 0);
        x.wish(0, Kind.HIDDEN, 0, 1, 0);
        check.done(x, "judge(2, 0, 2, 3, 3), hidden", x.judge(2, 0, 2, 3, 3), 0);
        check.done(x, "judge(2, 0, 1, 3, 3), hidden but to 1", x.judge(2, 0, 1, 3, 3), 1);
        WishLine y = Check.withLines(3);
        y.wish(1, Kind.WAITING, 0, 0, 0);
        y.wish(2, Kind.SHUT, 0, 0, 1);
        y.wish(1, Kind.SHARED, 0, 2, 0);
        check.done(y, "judge(2, 0, 2, 3, 1), shared", y.judge(2, 0, 2, 3, 1), 1);
    }

    private static void likeLines() {
        WishLine x = Check.withLines(2);
        check.done(x, "judge(0, 0, 0, 3, 3)", x.judge(0, 0, 0, 3, 3), 0);
        check.done(x, "judge(2, 0, 0, 3, 3)", x.judge(2, 0, 0, 3, 3), 0);
        check.done(x, "judge(1, 0, 0, 3, 3)", x.judge(1, 0, 0, 3, 3), 3);
        check.done(x, "judge(0, 0, 1, 0, 3)", x.judge(0, 0, 1, 0, 3), 0);
        check.done(x, "judge(0, 0, 1, 1, 3)", x.judge(0, 0, 1, 1, 3), 0);
    }

    private static void theCaseIsTheLeast() {
        WishLine x = Check.withLines(8);
        x.wish(5, Kind.ONWARD, 0, 7, 0);
        check.done(x, "judge(0, 3, 7, 168, 3)", x.judge(0, 3, 7, 168, 3), 2);
        check.dueCase(x, 1035, 2070);
        x.on(0, false);
        check.done(x, "judge(0, 3, 7, 168, 3)", x.judge(0, 3, 7, 168, 3), 2);
        check.dueCase(x, 1037, 2070);
        check.done(x, "judge(1, 7, 0, 168, 3)", x.judge(1, 7, 0, 168, 3), 3);
        check.dueCase(x, 1073, 2030, 4000);
    }

    private static void deeperCases() {
        WishLine x = Check.withLines(4);
        x.wish(0, Kind.BACK, 0, 0, 0);
        x.wish(1, Kind.SHUT, 0, 0, 0);
        x.wish(1, Kind.ONWARD, 0, 3, 1);
        check.done(x, "only a busy line sends on", x.judge(2, 0, 3, 7, 3), 2);
        check.dueCase(x, 1012, 1001);
        WishLine y = Check.withLines(3);
        y.wish(2, Kind.WAITING, 0, 0, 0);
        y.wish(2, Kind.SHUT, 1, 0, 3);
        check.done(y, "a call that knocks", y.judge(2, 0, 2, 7, 2), 2);
        check.dueCase(y, 1012, 1002);
        WishLine z = Check.withLines(3);
        z.wish(2, Kind.SHUT, 0, 0, 3);
        z.wish(0, Kind.BACK, 0, 0, 0);
        check.done(z, "a wish back is shut out too", z.judge(2, 0, 2, 7, 3), 0);
    }

    /** A line is told only while it rings, so the case may need one to hang up first. */
    private static void hangingUp() {
        WishLine x = Check.withLines(4);
        x.wish(2, Kind.ONWARD, 0, 3, 1);
        x.wish(3, Kind.SHUT, 0, 2, 5);
        check.done(x, "judge(2, 0, 3, 7, 3)", x.judge(2, 0, 3, 7, 3), 0);
        WishLine y = Check.withLines(4);
        y.wish(3, Kind.SHUT, 0, 0, 3);
        y.wish(1, Kind.WAITING, 0, 0, 0);
        y.wish(0, Kind.HIDDEN, 0, 2, 0);
        check.done(y, "judge(0, 0, 1, 3, 3)", y.judge(0, 0, 1, 3, 3), 2);
        WishLine z = Check.withLines(3);
        z.wish(0, Kind.ONWARD, 0, 1, 0);
        z.wish(1, Kind.WAITING, 0, 0, 0);
        z.wish(0, Kind.BACK, 0, 0, 0);
        check.done(z, "judge(2, 2, 1, 7, 3)", z.judge(2, 2, 1, 7, 3), 1);
        check.dueCase(z, 1020);
    }

    private static void beginsAnew() {
        WishLine x = Check.withLines(2);
        x.wish(1, Kind.SHUT, 0, 0, 1);
        x.wish(0, Kind.SHUT, 0, 1, 1);
        for (int i = 0; i < 12; i++) {
            x.tick();
        }
        x.dial(0, 1);
        x.take(1);
        x.tick();
        check.due("lineTold(0, 2)", x.lineTold(0, 2), 1);
        check.done(x, "judge(0) at tick 0", x.judge(0, 0, 1, 3, 3), 0);
        check.done(x, "judge(1) with no costs", x.judge(1, 0, 1, 3, 3), 0);
        x.on(0, false);
        check.done(x, "judge(0) with no calls", x.judge(0, 0, 1, 3, 3), 2);
        check.due("lineTold(0, 0)", x.lineTold(0, 0), 0);
        check.due("count(3)", x.count(3), 13);
    }

    private static void refused() {
        WishLine x = Check.withLines(5);
        int[][] wrong = {
            {-1, 0, 1, 3, 1}, {3, 0, 1, 3, 1}, {0, -1, 1, 3, 1}, {0, 5, 1, 3, 1}, {0, 0, -1, 3, 1},
            {0, 0, 5, 3, 1}, {2, 0, 5, 3, 1}, {1, 5, 0, 3, 1}, {1, -1, 0, 3, 1}, {0, 0, 1, -1, 1},
            {0, 0, 1, 32, 1}, {0, 0, 1, 15, 1}, {0, 0, 1, 31, 1}, {0, 0, 1, 3, 0}, {0, 0, 1, 3, 4},
            {0, 0, 1, Integer.MIN_VALUE, 1}, {0, 0, 1, Integer.MAX_VALUE, 1}, {0, 0, 1, 3, Integer.MAX_VALUE},
        };
        x.judge(0, 0, 1, 3, 2);
        for (int[] w : wrong) {
            String call = java.util.Arrays.toString(w);
            check.refused(x, "judge" + call, x.judge(w[0], w[1], w[2], w[3], w[4]), 1);
            x.tick();
            check.done(x, "alone" + call, x.alone(w[0], w[1], w[2], w[3], w[4]), -1);
            x.wish(0, 0, 0, 0, 0);
            check.done(x, "peace" + call, x.peace(0, w[0], w[1], w[2], w[3], w[4]), -1);
        }
        check.dueCase(x, 1001, 2010);
        check.due("peace(of no wish)", x.peace(x.count(1), 0, 0, 0, 3, 1), -1);
        check.due("peace(-1)", x.peace(-1, 0, 0, 0, 3, 1), -1);
        check.due("peace(0)", x.peace(0, 0, 0, 0, 3, 1), 0);
        check.done(x, "judge of three lines", x.judge(0, 2, 3, 28, 2), 2);
    }

    private static void theCaseStays() {
        WishLine x = Check.withLines(2);
        x.wish(0, Kind.WAITING, 0, 0, 0);
        x.judge(0, 0, 1, 3, 3);
        x.alone(2, 0, 1, 3, 1);
        x.peace(0, 2, 0, 1, 3, 1);
        x.tick();
        x.dial(0, 1);
        x.image();
        x.restore();
        check.dueCase(x, 1001, 2010);
        x.judge(0, 0, 0, 3, 3);
        check.dueCase(x);
    }

    private static void alone() {
        WishLine x = Check.withLines(4);
        x.wish(1, Kind.SHUT, 0, 0, 3);
        x.wish(1, Kind.ONWARD, 1, 2, 0);
        x.wish(0, Kind.HIDDEN, 0, 0, 0);
        x.wish(1, Kind.ONWARD, 2, 3, 0);
        check.done(x, "judge: 0 is hidden", x.judge(2, 0, 2, 3, 3), 0);
        check.due("alone: 0 is hidden", x.alone(2, 0, 2, 3, 3), -1);
        x.on(2, false);
        check.due("judge: 0 is shut out", x.judge(2, 0, 2, 3, 3), 0);
        check.due("alone to 2", x.alone(2, 0, 2, 3, 3), 1);
        check.due("alone to 3", x.alone(2, 0, 3, 3, 3), 3);
        x.on(1, false);
        check.due("alone of one that is not on", x.alone(2, 0, 2, 3, 3), 1);
        check.due("alone to 1", x.alone(2, 0, 1, 3, 3), -1);
        check.due("alone, the least", x.alone(0, 0, 3, 9, 2), 0);
        WishLine y = Check.withLines(3);
        y.wish(0, Kind.BACK, 0, 0, 0);
        y.wish(2, Kind.PAID, 0, 0, 0);
        check.due("alone with no such kinds", y.alone(0, 0, 1, 3, 2), -1);
        y.wish(2, Kind.SHUT, 0, 2, 0);
        check.due("alone with a shut", y.alone(0, 0, 1, 3, 2), 2);
        WishLine z = Check.withLines(3);
        z.wish(1, Kind.SHUT, 0, 0, 1);
        z.wish(1, Kind.WAITING, 0, 0, 0);
        check.due("alone of a waiting", z.alone(2, 0, 1, 7, 1), 1);
        WishLine v = Check.withLines(2);
        v.wish(1, Kind.HIDDEN, 0, 1, 0);
        v.wish(1, Kind.SHARED, 0, 1, 0);
        v.wish(1, 0, 0, 1, 0);
        check.due("alone of other kinds", v.alone(2, 0, 1, 3, 1), -1);
        WishLine u = Check.withLines(3);
        for (int i = 0; i < 24; i++) {
            u.wish(1, i < 23 ? Kind.SHUT : Kind.ONWARD, 0, i < 23 ? 0 : 2, i < 23 ? 3 : 0);
        }
        check.due("alone of the last of 24", u.alone(2, 0, 2, 3, 1), 23);
    }

    private static void peace() {
        WishLine x = Check.withLines(3);
        x.wish(1, Kind.ONWARD, 4, 2, 0);
        x.wish(1, Kind.SHUT, 9, 0, 3);
        check.due("peace of the shut", x.peace(1, 2, 0, 2, 3, 3), 0);
        check.due("peace of the onward", x.peace(0, 2, 0, 2, 3, 3), -1);
        x.rank(1, 7);
        check.due("peace of the onward, shut at 7", x.peace(0, 2, 0, 2, 3, 3), 8);
        check.due("wishTold(0, 2)", x.wishTold(0, 2), 4);
        x.on(1, false);
        check.due("peace of one that is not on", x.peace(1, 2, 0, 2, 3, 3), -1);
        WishLine y = Check.withLines(4);
        y.wish(1, Kind.SHUT, 6, 0, 3);
        y.wish(1, Kind.ONWARD, 0, 2, 0);
        check.due("peace behind a like rank", y.peace(1, 2, 0, 2, 3, 3), 6);
        y.rank(0, 9);
        check.due("peace at the last rank", y.peace(1, 2, 0, 2, 3, 3), 9);
        WishLine z = Check.withLines(4);
        z.wish(1, Kind.ONWARD, 3, 2, 0);
        z.wish(1, Kind.ONWARD, 5, 3, 0);
        check.due("peace: 0 is not told to 3", z.peace(1, 2, 0, 3, 3, 3), 3);
        check.due("peace: 0 is not told to 2", z.peace(1, 2, 0, 2, 3, 3), 0);
        z.wish(1, Kind.SHUT, 4, 0, 1);
        check.due("peace of a back", z.peace(2, 0, 0, 3, 3, 1), 0);
        check.due("peace by few acts", z.peace(0, 0, 0, 3, 3, 1), 0);
    }

    private static void noQuestionChangesAnything() {
        WishLine x = Check.withLines(4);
        x.wish(1, Kind.ONWARD, 4, 2, 0);
        x.wish(1, Kind.SHUT, 9, 0, 3);
        x.wish(2, Kind.WAITING, 9, 0, 3);
        x.on(1, false);
        x.dial(0, 1);
        x.tick();
        x.take(9);
        int[] before = AllAnswers.of(x);
        x.alone(2, 0, 2, 3, 3);
        x.peace(0, 2, 0, 2, 3, 3);
        check.due("status()", x.status(), 1);
        x.judge(2, 0, 2, 7, 3);
        int[] then = AllAnswers.of(x);
        check.dueSame("behind the judge", then, before);
    }
}
