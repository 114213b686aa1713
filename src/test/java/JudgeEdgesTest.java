/** The judge at its edges: section 3 of the document, and promises 20 to 23. */
public final class JudgeEdgesTest {
    private static final Check check = new Check();
    private static final int MAX = Integer.MAX_VALUE;
    private static final int MIN = Integer.MIN_VALUE;

    // Kind, a, b, set and depth that are none such, in a house of five lines.
    private static final int[][] WRONG = {
        {-1, 0, 1, 3, 2}, {3, 0, 1, 3, 2}, {MAX, 0, 1, 3, 2}, {MIN, 0, 1, 3, 2},
        {0, -1, 1, 3, 2}, {0, 5, 1, 3, 2}, {1, -1, 1, 3, 2}, {1, 5, 1, 3, 2}, {2, 8, 1, 3, 2}, {2, MIN, 1, 3, 2},
        {0, 0, -1, 3, 2}, {0, 0, 5, 3, 2}, {2, 0, -1, 3, 2}, {2, 0, 5, 3, 2}, {2, 0, MAX, 3, 2},
        {0, 0, 1, -1, 2}, {0, 0, 1, 32, 2}, {0, 0, 1, 33, 2}, {0, 0, 1, 15, 2}, {0, 0, 1, 31, 2}, {0, 0, 1, 30, 2},
        {0, 0, 1, 256, 2}, {0, 0, 1, MAX, 2}, {0, 0, 1, MIN, 2}, {0, 0, 1, MIN + 3, 2},
        {0, 0, 1, 3, 0}, {0, 0, 1, 3, -1}, {0, 0, 1, 3, 4}, {0, 0, 1, 3, MAX}, {0, 0, 1, 3, MIN},
    };

    public static void main(String[] args) {
        speakOneAsTheCaller();
        speakOfOneLine();
        paysForAnother();
        tellsWhileItKnocks();
        tellsOfOneLine();
        beginsAtTickNought();
        beginsWithoutCalls();
        beginsWithoutBacks();
        beginsWithoutCosts();
        beginsWithTheseWishes();
        linesOutsideTheSetRing();
        onlyPeopleOfTheSetAct();
        nobodyDialsItself();
        greatestActs();
        takenByTheSet();
        noActIsRefused();
        brokenBehindTheLast();
        knockersRingInACase();
        fewestActs();
        lesserActFirst();
        lesserActAtALaterPlace();
        judgedKinds();
        ofOneOtherDoesNotMatter();
        emptySet();
        setOfOneLine();
        setOfThreeLines();
        setOfLinesThatThereAre();
        depths();
        judgeRefused();
        noCaseYet();
        caseOfNothing();
        caseOfARefusedJudge();
        actOutside();
        judgeChangesNothing();
        aloneRefused();
        aloneWithoutWishes();
        aloneOfThreeKindsOnly();
        aloneTheLeast();
        aloneTheLast();
        aloneOfOneThatIsNotOn();
        aloneWithoutTheOthers();
        aloneWithOtherKindsAsTheyAre();
        aloneByDepth();
        aloneWithNoSet();
        peaceRefused();
        peaceOfNoWish();
        peaceAtTheFirstRank();
        peaceAtTheLastRank();
        peaceAtALikeRank();
        peaceNever();
        peaceOfAnyKind();
        peaceOfOneThatIsNotOn();
        peaceByDepth();
        check.end();
    }

    /**
     * Section 3, "PROMISES of a LINE a and a LINE b: 0 they never SPEAK in one CALL (one as the CALLER).": either
     * may be the caller.
     */
    private static void speakOneAsTheCaller() {
        WishLine x = Check.withLines(3);
        x.wish(1, Kind.SHUT, 0, 0, 3);
        check.done(x, "1 can dial 0", x.judge(0, 0, 1, 3, 3), 2);
        check.dueCase(x, 1010, 2000);
        check.done(x, "the same the other way round", x.judge(0, 1, 0, 3, 3), 2);
        check.dueCase(x, 1010, 2000);
        x.wish(0, Kind.ONWARD, 0, 2, 0);
        check.done(x, "a line that sends on does not speak", x.judge(0, 0, 1, 7, 3), 0);
        check.done(x, "but the last one does", x.judge(0, 1, 2, 7, 3), 2);
        check.dueCase(x, 1010, 2020);
    }

    /** Section 3, "0 they never SPEAK in one CALL (one as the CALLER).": a line does not speak with itself. */
    private static void speakOfOneLine() {
        WishLine x = Check.withLines(2);
        x.wish(0, Kind.ONWARD, 0, 1, 1);
        check.done(x, "judge(0, 0, 0, 3, 3)", x.judge(0, 0, 0, 3, 3), 0);
        check.done(x, "judge(0, 1, 1, 3, 3)", x.judge(0, 1, 1, 3, 3), 0);
    }

    /**
     * Section 3, "1 a never pays.": as the caller, as one that sends on, as one with a paid wish; never as one
     * that only takes.
     */
    private static void paysForAnother() {
        WishLine x = Check.withLines(3);
        x.wish(1, Kind.ONWARD, 0, 2, 0);
        check.done(x, "one that sends on", x.judge(1, 1, 0, 5, 3), 0);
        check.done(x, "one that sends on, dialled", x.judge(1, 1, 0, 7, 3), 3);
        check.dueCase(x, 1001, 2020, 4000);
        check.done(x, "one that is called", x.judge(1, 2, 0, 3, 3), 0);
        x.wish(2, Kind.PAID, 0, 0, 0);
        check.done(x, "one with a paid wish", x.judge(1, 2, 0, 5, 3), 3);
        check.dueCase(x, 1002, 2020, 4000);
        check.done(x, "but not its caller", x.judge(1, 0, 0, 5, 3), 0);
    }

    /** Section 3, "2 no CALL TELLS a to b.": also a call that knocks; not b to a. */
    private static void tellsWhileItKnocks() {
        WishLine x = Check.withLines(3);
        x.wish(2, Kind.SHUT, 5, 0, 3);
        x.wish(2, Kind.WAITING, 0, 0, 0);
        check.done(x, "judge(2, 0, 2, 7, 1)", x.judge(2, 0, 2, 7, 1), 0);
        check.done(x, "judge(2, 0, 2, 7, 2)", x.judge(2, 0, 2, 7, 2), 2);
        check.dueCase(x, 1012, 1002);
        check.done(x, "judge(2, 2, 0, 7, 1)", x.judge(2, 2, 0, 7, 1), 1);
        check.dueCase(x, 1020);
        x.wish(0, Kind.HIDDEN, 0, 1, 0);
        check.done(x, "0 is hidden", x.judge(2, 0, 2, 7, 3), 0);
    }

    /** Section 3, "2 no CALL TELLS a to b.": a line is not told to itself. */
    private static void tellsOfOneLine() {
        WishLine x = Check.withLines(2);
        check.done(x, "judge(2, 0, 0, 3, 3)", x.judge(2, 0, 0, 3, 3), 0);
        check.done(x, "judge(2, 1, 1, 3, 3)", x.judge(2, 1, 1, 3, 3), 0);
    }

    /**
     * Section 3, "THE JUDGE begins with these LINES, WISHES, TICK 0, no CALLS, no WISHES BACK, no costs, and goes
     * through what people on a set of LINES can do": tick 0, whatever hour it is now.
     */
    private static void beginsAtTickNought() {
        WishLine x = Check.withLines(2);
        x.wish(1, Kind.SHUT, 0, 0, 1);
        x.wish(0, Kind.SHUT, 0, 1, 2);
        for (int i = 0; i < 12; i++) {
            x.tick();
        }
        check.done(x, "shut in the morning", x.judge(2, 0, 1, 3, 3), 0);
        check.done(x, "shut in the evening", x.judge(2, 1, 0, 3, 3), 1);
        check.due("count(3)", x.count(3), 12);
    }

    /** Section 3, "TICK 0, no CALLS, no WISHES BACK, no costs": the calls of the house are not there. */
    private static void beginsWithoutCalls() {
        WishLine x = Check.withLines(3);
        x.wish(1, Kind.ONWARD, 0, 2, 3);
        x.dial(0, 1);
        check.done(x, "a call that a tick would send on", x.judge(2, 0, 2, 0, 1), 0);
        check.done(x, "a call that could be taken", x.judge(0, 0, 1, 2, 1), 0);
        x.take(1);
        check.done(x, "a call that speaks", x.judge(0, 0, 1, 0, 1), 0);
        check.done(x, "a call that would cost", x.judge(1, 0, 0, 0, 1), 0);
        check.done(x, "lines that are free", x.judge(0, 0, 1, 3, 3), 2);
    }

    /** Section 3, "no WISHES BACK": those of the house are not there, so that a tick does not dial for them. */
    private static void beginsWithoutBacks() {
        WishLine x = Check.withLines(3);
        x.wish(0, Kind.BACK, 0, 0, 0);
        x.dial(1, 2);
        x.dial(0, 1);
        x.down(1);
        check.dueBacks(x, 0, 1);
        check.done(x, "judge(2, 0, 1, 0, 3)", x.judge(2, 0, 1, 0, 3), 0);
        check.dueBacks(x, 0, 1);
    }

    /** Section 3, "no costs": what a line had to pay so far does not count. */
    private static void beginsWithoutCosts() {
        WishLine x = Check.withLines(2);
        x.dial(0, 1);
        x.take(1);
        x.tick();
        check.due("lineTold(0, 2)", x.lineTold(0, 2), 1);
        check.done(x, "judge(1, 0, 0, 0, 3)", x.judge(1, 0, 0, 0, 3), 0);
        check.done(x, "judge(1, 0, 0, 3, 2)", x.judge(1, 0, 0, 3, 2), 0);
        check.done(x, "judge(1, 0, 0, 3, 3)", x.judge(1, 0, 0, 3, 3), 3);
    }

    /**
     * Section 3, "THE JUDGE begins with these LINES, WISHES": on or not as they are, with the ranks that they
     * have.
     */
    private static void beginsWithTheseWishes() {
        WishLine x = Check.withLines(3);
        x.wish(1, Kind.SHUT, 5, 0, 1);
        x.wish(1, Kind.ONWARD, 4, 2, 0);
        check.done(x, "sent on", x.judge(2, 0, 2, 3, 1), 1);
        x.rank(0, 4);
        check.done(x, "shut out", x.judge(2, 0, 2, 3, 1), 0);
        x.on(0, false);
        check.done(x, "no more shut out", x.judge(2, 0, 2, 3, 1), 1);
        x.on(1, false);
        check.done(x, "no more sent on", x.judge(2, 0, 2, 3, 1), 0);
    }

    /** Section 3, "THE JUDGE begins with these LINES": calls go to lines outside the set, where nobody takes them. */
    private static void linesOutsideTheSetRing() {
        WishLine x = Check.withLines(8);
        x.wish(1, Kind.ONWARD, 0, 7, 0);
        check.done(x, "told outside the set", x.judge(2, 0, 7, 3, 3), 1);
        check.dueCase(x, 1001);
        check.done(x, "not taken outside the set", x.judge(0, 0, 7, 3, 3), 0);
        check.done(x, "taken in the set", x.judge(0, 0, 7, 131, 3), 2);
        check.dueCase(x, 1001, 2070);
    }

    /**
     * Section 3, "and goes through what people on a set of LINES can do": a and b need not be of it, and then do
     * nothing.
     */
    private static void onlyPeopleOfTheSetAct() {
        WishLine x = Check.withLines(4);
        check.done(x, "neither is of the set", x.judge(0, 0, 1, 12, 3), 0);
        check.done(x, "b is not of the set", x.judge(0, 0, 1, 5, 3), 0);
        check.done(x, "a is not of the set", x.judge(2, 0, 1, 6, 3), 0);
        x.wish(2, Kind.ONWARD, 0, 1, 0);
        check.done(x, "b rings by way of another", x.judge(2, 0, 1, 5, 3), 1);
        check.dueCase(x, 1002);
        check.done(x, "a sends on", x.judge(1, 2, 0, 3, 3), 0);
    }

    /** Section 3, "acts 1000 + 10 x + y: x DIALS y (both of the set, unlike);": no one dials itself. */
    private static void nobodyDialsItself() {
        WishLine x = Check.withLines(3);
        x.wish(0, Kind.ONWARD, 0, 1, 1);
        x.dial(0, 0);
        check.due("it would be told", x.tells(0, 1), 1);
        check.done(x, "judge(2, 0, 1, 1, 3)", x.judge(2, 0, 1, 1, 3), 0);
        check.done(x, "judge(2, 0, 1, 5, 3)", x.judge(2, 0, 1, 5, 3), 0);
    }

    /**
     * Section 3, "acts 1000 + 10 x + y: x DIALS y (both of the set, unlike); 2000 + 10 x: x takes; 3000 + 10 x: x
     * hangs up; 4000: a TICK.": of line 7.
     */
    private static void greatestActs() {
        WishLine x = Check.withLines(8);
        x.wish(7, Kind.PAID, 0, 0, 0);
        check.done(x, "judge(1, 7, 0, 192, 3)", x.judge(1, 7, 0, 192, 3), 3);
        check.dueCase(x, 1067, 2070, 4000);
        x.on(0, false);
        check.done(x, "judge(1, 7, 0, 192, 3)", x.judge(1, 7, 0, 192, 3), 3);
        check.dueCase(x, 1076, 2060, 4000);
    }

    /** Section 3, "2000 + 10 x: x takes": a line that shares the ringing takes as well, if it is of the set. */
    private static void takenByTheSet() {
        WishLine x = Check.withLines(4);
        x.wish(1, Kind.SHARED, 0, 2, 0);
        check.done(x, "taken by the one that shares", x.judge(0, 0, 2, 7, 2), 2);
        x.wish(2, Kind.SHUT, 0, 0, 3);
        check.done(x, "whom it shuts out otherwise", x.judge(0, 0, 2, 7, 2), 2);
        check.dueCase(x, 1001, 2020);
    }

    /**
     * Section 3, "A CASE: acts, one after the other, none of which is refused, behind the last of which the
     * PROMISE is broken.": no taking where none rings.
     */
    private static void noActIsRefused() {
        WishLine x = Check.withLines(3);
        x.wish(1, Kind.ONWARD, 0, 2, 0);
        x.wish(0, Kind.ONWARD, 0, 2, 0);
        check.done(x, "0 and 1 never ring for each other", x.judge(0, 0, 1, 3, 3), 0);
        check.done(x, "one act is no way to speak", x.judge(0, 0, 2, 7, 1), 0);
        WishLine y = Check.withLines(4);
        y.wish(1, Kind.ONWARD, 0, 3, 1);
        check.done(y, "one that is not free dials no more", y.judge(2, 0, 3, 3, 3), 0);
        check.done(y, "a third one makes the line busy", y.judge(2, 0, 3, 7, 3), 2);
    }

    /** Section 3, "behind the last of which the PROMISE is broken.": not only while the last act goes on. */
    private static void brokenBehindTheLast() {
        WishLine x = Check.withLines(3);
        x.wish(1, Kind.ONWARD, 0, 2, 0);
        check.done(x, "a line that sends on at once is not told", x.judge(2, 0, 1, 3, 3), 0);
        WishLine y = Check.withLines(3);
        y.wish(1, Kind.ONWARD, 0, 0, 0);
        check.done(y, "a call that came round rings nowhere", y.judge(2, 0, 1, 3, 3), 0);
    }

    /**
     * Section 3, "A CASE: acts, one after the other": a line shuts 2 out but lets it knock while it is busy; the tick
     * frees the line, so that the call rings there and is sent on in the same tick.
     */
    private static void knockersRingInACase() {
        WishLine x = Check.withLines(4);
        x.wish(1, Kind.WAITING, 0, 0, 0);
        x.wish(1, Kind.SHUT, 1, 2, 3);
        x.wish(1, Kind.ONWARD, 2, 3, 3);
        x.wish(3, Kind.WAITING, 0, 0, 0);
        check.done(x, "judge(2, 2, 3, 7, 2)", x.judge(2, 2, 3, 7, 2), 0);
        check.done(x, "judge(2, 2, 3, 7, 3)", x.judge(2, 2, 3, 7, 3), 3);
        check.dueCase(x, 1001, 1021, 4000);
    }

    /** Section 3, "THE CASE: the one of the fewest acts": before one of more acts whose first act is lesser. */
    private static void fewestActs() {
        WishLine x = Check.withLines(4);
        x.wish(1, Kind.ONWARD, 0, 3, 4);
        check.done(x, "three acts", x.judge(2, 0, 3, 7, 3), 3);
        check.dueCase(x, 1001, 4000, 4000);
        x.wish(2, Kind.ONWARD, 0, 3, 3);
        check.done(x, "two acts", x.judge(2, 0, 3, 7, 3), 2);
        check.dueCase(x, 1002, 4000);
        x.on(1, false);
        x.wish(2, Kind.ONWARD, 0, 3, 0);
        check.done(x, "one act", x.judge(2, 0, 3, 7, 3), 1);
        check.dueCase(x, 1002);
    }

    /** Section 3, "of these the one with the lesser act at the first place where they differ.": the first act. */
    private static void lesserActFirst() {
        WishLine x = Check.withLines(4);
        x.wish(1, Kind.ONWARD, 0, 3, 3);
        x.wish(2, Kind.ONWARD, 0, 3, 3);
        check.done(x, "judge(2, 0, 3, 7, 3)", x.judge(2, 0, 3, 7, 3), 2);
        check.dueCase(x, 1001, 4000);
        check.done(x, "judge(0, 2, 0, 7, 3)", x.judge(0, 2, 0, 7, 3), 2);
        check.dueCase(x, 1002, 2020);
        check.done(x, "judge(0, 2, 1, 6, 3)", x.judge(0, 2, 1, 6, 3), 2);
        check.dueCase(x, 1012, 2020);
    }

    /**
     * Section 3, "of these the one with the lesser act at the first place where they differ.": the second and the
     * third act.
     */
    private static void lesserActAtALaterPlace() {
        WishLine x = Check.withLines(3);
        x.wish(1, Kind.SHARED, 0, 2, 0);
        check.done(x, "two can take it", x.judge(1, 0, 0, 7, 3), 3);
        check.dueCase(x, 1001, 2010, 4000);
        WishLine y = Check.withLines(4);
        y.wish(1, Kind.ONWARD, 0, 3, 1);
        check.done(y, "1 is busy by 2, or by its own call", y.judge(2, 0, 3, 7, 3), 2);
        check.dueCase(y, 1012, 1001);
        check.done(y, "3 takes it", y.judge(0, 0, 3, 11, 3), 2);
        check.dueCase(y, 1003, 2030);
    }

    /** Promise 20, judge: "THE JUDGE of a PROMISE (kind 0 .. 2;": each of the three. */
    private static void judgedKinds() {
        WishLine x = Check.withLines(2);
        int[] acts = {2, 3, 1};
        for (int kind = 0; kind <= 2; kind++) {
            check.done(x, "judge of kind " + kind, x.judge(kind, 0, 1, 3, 3), acts[kind]);
            check.due("count(6)", x.count(6), acts[kind]);
        }
        check.refused(x, "judge of kind -1", x.judge(-1, 0, 1, 3, 3), 1);
        check.refused(x, "judge of kind 3", x.judge(3, 0, 1, 3, 3), 1);
    }

    /** Promise 20, judge: "of 1 b does not matter)": it need not be a line; of 0 and 2 it must. */
    private static void ofOneOtherDoesNotMatter() {
        WishLine x = Check.withLines(2);
        x.wish(0, Kind.SHUT, 0, 0, 0);
        int[] others = {-1, 0, 1, 2, 8, MAX, MIN};
        for (int b : others) {
            check.done(x, "judge(1, 0, " + b + ", 3, 3)", x.judge(1, 0, b, 3, 3), 3);
            check.due("alone(1, 0, " + b + ", 3, 3)", x.alone(1, 0, b, 3, 3), 0);
            check.due("peace(0, 1, 1, " + b + ", 1, 3)", x.peace(0, 1, 1, b, 1, 3), 0);
            if (b < 0 || b > 1) {
                check.refused(x, "judge(0, 0, " + b + ", 3, 3)", x.judge(0, 0, b, 3, 3), 1);
                check.refused(x, "judge(2, 0, " + b + ", 3, 3)", x.judge(2, 0, b, 3, 3), 1);
            }
        }
    }

    /** Promise 20, judge: "on a set of LINES (bits of LINES that there are, 3 at most, none is fine)": none. */
    private static void emptySet() {
        WishLine x = Check.withLines(2);
        for (int kind = 0; kind <= 2; kind++) {
            check.done(x, "judge(" + kind + ", 0, 1, 0, 3)", x.judge(kind, 0, 1, 0, 3), 0);
        }
        check.dueCase(x);
    }

    /**
     * Promise 20, judge: "on a set of LINES (bits of LINES that there are, 3 at most, none is fine)": one alone
     * can dial no one.
     */
    private static void setOfOneLine() {
        WishLine x = Check.withLines(8);
        for (int line = 0; line < 8; line++) {
            check.done(x, "judge(1, " + line + ")", x.judge(1, line, 0, 1 << line, 3), 0);
        }
    }

    /** Promise 20, judge: "(bits of LINES that there are, 3 at most, none is fine)": every three, and every four. */
    private static void setOfThreeLines() {
        WishLine x = Check.withLines(8);
        for (int set = 0; set < 256; set++) {
            int got = x.judge(1, 0, 0, set, 1);
            check.due("judge on the set " + set, got, Integer.bitCount(set) <= 3 ? 0 : -1);
        }
        check.refused(x, "judge on the set 240", x.judge(1, 0, 0, 240, 1), 1);
        check.done(x, "judge on the set 224", x.judge(1, 7, 0, 224, 3), 3);
    }

    /** Promise 20, judge: "(bits of LINES that there are": the bit behind the last line, and the sign. */
    private static void setOfLinesThatThereAre() {
        for (int lines = 1; lines <= 8; lines++) {
            WishLine x = Check.withLines(lines);
            check.done(x, "the last line", x.judge(1, 0, 0, 1 << lines - 1, 1), 0);
            check.refused(x, "the line behind it", x.judge(1, 0, 0, 1 << lines, 1), 1);
            check.refused(x, "both", x.judge(1, 0, 0, 3 << lines - 1, 1), 1);
            check.refused(x, "the sign", x.judge(1, 0, 0, MIN, 1), 1);
            check.refused(x, "bit 30", x.judge(1, 0, 0, 1 << 30, 1), 1);
            check.refused(x, "-1", x.judge(1, 0, 0, -1, 1), 1);
        }
    }

    /**
     * Promise 20, judge: "with depth acts at most (1 .. 3): how many acts THE CASE has; 0: there is none. STATUS
     * 1."
     */
    private static void depths() {
        WishLine x = Check.withLines(2);
        int[] acts = {2, 3, 1};
        for (int kind = 0; kind <= 2; kind++) {
            for (int depth = 1; depth <= 3; depth++) {
                int want = acts[kind] <= depth ? acts[kind] : 0;
                check.done(x, "kind " + kind + ", depth " + depth, x.judge(kind, 0, 1, 3, depth), want);
                check.due("count(6)", x.count(6), want);
            }
            check.refused(x, "depth 0", x.judge(kind, 0, 1, 3, 0), 1);
            check.refused(x, "depth 4", x.judge(kind, 0, 1, 3, 4), 1);
        }
    }

    /** Promise 20, judge: "0: there is none. STATUS 1.": every number that is none such. */
    private static void judgeRefused() {
        WishLine x = Check.withLines(5);
        for (int[] w : WRONG) {
            String call = "judge(" + java.util.Arrays.toString(w) + ")";
            check.refused(x, call, x.judge(w[0], w[1], w[2], w[3], w[4]), 1);
        }
    }

    /**
     * Promise 21, actOf: "Act i of THE CASE of the latest judge() that was not refused. -1: none such.": there was
     * none yet.
     */
    private static void noCaseYet() {
        WishLine x = Check.withLines(2);
        check.dueCase(x);
        x.judge(0, 0, 1, 3, 9);
        check.dueCase(x);
    }

    /**
     * Promise 21, actOf: "Act i of THE CASE of the latest judge() that was not refused.": one without a case
     * leaves none.
     */
    private static void caseOfNothing() {
        WishLine x = Check.withLines(2);
        x.judge(1, 0, 0, 3, 3);
        check.dueCase(x, 1001, 2010, 4000);
        x.judge(2, 0, 1, 3, 3);
        check.dueCase(x, 1001);
        x.judge(2, 0, 1, 0, 3);
        check.dueCase(x);
    }

    /**
     * Promise 21, actOf: "of the latest judge() that was not refused.": refused ones, alone() and peace() leave
     * it.
     */
    private static void caseOfARefusedJudge() {
        WishLine x = Check.withLines(5);
        x.wish(0, Kind.SHUT, 0, 0, 0);
        x.judge(0, 0, 1, 3, 2);
        for (int[] w : WRONG) {
            x.judge(w[0], w[1], w[2], w[3], w[4]);
        }
        check.dueCase(x, 1001, 2010);
        x.alone(1, 2, 0, 12, 3);
        x.peace(0, 2, 2, 3, 12, 3);
        check.dueCase(x, 1001, 2010);
    }

    /** Promise 21, actOf: "-1: none such.": below 0 and above the last. */
    private static void actOutside() {
        WishLine x = Check.withLines(2);
        x.judge(1, 0, 0, 3, 3);
        int[] none = {-1, 3, 4, MAX, MIN};
        for (int i : none) {
            check.due("actOf(" + i + ")", x.actOf(i), -1);
        }
        check.due("actOf(2)", x.actOf(2), 4000);
        x.judge(2, 0, 1, 3, 3);
        check.due("actOf(0)", x.actOf(0), 1001);
        check.due("actOf(1)", x.actOf(1), -1);
        check.due("actOf(2)", x.actOf(2), -1);
    }

    private static WishLine busyHouse() {
        WishLine x = Check.withLines(5);
        x.wish(1, Kind.ONWARD, 4, 2, 0);
        x.wish(1, Kind.SHUT, 9, 0, 3);
        x.wish(2, Kind.WAITING, 9, 0, 3);
        x.wish(4, Kind.BACK, 9, 0, 3);
        x.on(1, false);
        x.dial(0, 1);
        x.take(2);
        x.dial(3, 2);
        x.dial(4, 0);
        x.tick();
        return x;
    }

    /** Section 3, "goes through what people on a set of LINES can do": in the house itself nobody does it. */
    private static void judgeChangesNothing() {
        int[] before = AllAnswers.of(() -> {
            WishLine x = busyHouse();
            x.judge(1, 0, 1, 7, 3);
            return x;
        });
        int[] then = AllAnswers.of(() -> {
            WishLine x = busyHouse();
            x.judge(0, 1, 2, 7, 3);
            x.judge(2, 4, 2, 28, 3);
            x.judge(1, 0, 1, 7, 3);
            x.alone(2, 0, 2, 7, 3);
            for (int wish = 0; wish < 4; wish++) {
                x.peace(wish, 2, 0, 2, 7, 3);
            }
            return x;
        });
        check.dueSame("behind judge(), alone(), peace()", then, before);
    }

    /**
     * Promise 22, alone: "-1: none, or no such.": numbers that are none such; it is a question, so the status
     * stays.
     */
    private static void aloneRefused() {
        WishLine x = Check.withLines(5);
        x.wish(4, Kind.SHUT, 0, 4, 0);
        check.due("alone(0, 0, 1, 3, 2)", x.alone(0, 0, 1, 3, 2), 0);
        for (int[] w : WRONG) {
            String call = "alone(" + java.util.Arrays.toString(w) + ")";
            check.done(x, call, x.alone(w[0], w[1], w[2], w[3], w[4]), -1);
        }
        x.take(9);
        check.due("alone(0, 0, 1, 3, 2)", x.alone(0, 0, 1, 3, 2), 0);
        check.due("status()", x.status(), 1);
    }

    /** Promise 22, alone: "by single WISHES: the least WISH of KINDS 1, 2, 4": there are no wishes. */
    private static void aloneWithoutWishes() {
        WishLine x = Check.withLines(2);
        check.due("there is a case", x.judge(0, 0, 1, 3, 2), 2);
        check.due("but no wish", x.alone(0, 0, 1, 3, 2), -1);
    }

    /** Promise 22, alone: "the least WISH of KINDS 1, 2, 4 (also one that is not ON now)": not of the other kinds. */
    private static void aloneOfThreeKindsOnly() {
        for (int kind = 0; kind < 8; kind++) {
            WishLine x = Check.withLines(3);
            x.wish(2, kind, 0, 2, 0);
            boolean isOne = kind == Kind.ONWARD || kind == Kind.SHUT || kind == Kind.WAITING;
            check.due("alone of kind " + kind, x.alone(0, 0, 1, 3, 2), isOne ? 0 : -1);
        }
    }

    /** Promise 22, alone: "the least WISH": of several the one of the least number, whatever its rank. */
    private static void aloneTheLeast() {
        WishLine x = Check.withLines(4);
        x.wish(1, Kind.SHUT, 0, 0, 3);
        x.wish(1, Kind.ONWARD, 9, 2, 0);
        x.wish(1, Kind.ONWARD, 0, 2, 0);
        x.wish(1, Kind.ONWARD, 0, 3, 0);
        check.due("told to 2", x.alone(2, 0, 2, 3, 1), 1);
        check.due("told to 3", x.alone(2, 0, 3, 3, 1), 3);
        check.due("told to 1", x.alone(2, 0, 1, 3, 1), -1);
        x.wish(3, Kind.WAITING, 0, 0, 0);
        check.due("told to 1, by one that does not matter", x.alone(2, 0, 1, 3, 1), 4);
    }

    /** Promise 22, alone: "the least WISH of KINDS 1, 2, 4": the last of 24. */
    private static void aloneTheLast() {
        WishLine x = Check.withLines(3);
        for (int i = 0; i < 23; i++) {
            x.wish(1, Kind.SHUT, 0, 0, 3);
        }
        x.wish(1, Kind.ONWARD, 9, 2, 0);
        check.due("alone(2, 0, 2, 3, 1)", x.alone(2, 0, 2, 3, 1), 23);
        check.due("alone(2, 0, 1, 3, 1)", x.alone(2, 0, 1, 3, 1), -1);
    }

    /** Promise 22, alone: "(also one that is not ON now)": and it is not on behind the question either. */
    private static void aloneOfOneThatIsNotOn() {
        WishLine x = Check.withLines(3);
        x.wish(1, Kind.ONWARD, 0, 2, 0);
        x.on(0, false);
        check.due("judge(2, 0, 2, 3, 3)", x.judge(2, 0, 2, 3, 3), 0);
        check.due("alone(2, 0, 2, 3, 3)", x.alone(2, 0, 2, 3, 3), 0);
        check.due("wishTold(0, 5)", x.wishTold(0, 5), 0);
        check.due("judge(2, 0, 2, 3, 3)", x.judge(2, 0, 2, 3, 3), 0);
    }

    /**
     * Promise 22, alone: "if it is ON and all others of these KINDS are not": a case that needs two has no single
     * wish.
     */
    private static void aloneWithoutTheOthers() {
        WishLine x = Check.withLines(4);
        x.wish(1, Kind.ONWARD, 0, 2, 0);
        x.wish(2, Kind.ONWARD, 0, 3, 0);
        check.due("by two", x.judge(2, 0, 3, 3, 3), 1);
        check.due("by one", x.alone(2, 0, 3, 3, 3), -1);
        x.wish(1, Kind.SHUT, 0, 0, 3);
        x.rank(0, 9);
        check.due("shut out", x.judge(2, 0, 2, 3, 3), 0);
        check.due("but not by it alone", x.alone(2, 0, 2, 3, 3), 0);
        check.due("wishTold(1, 5)", x.wishTold(1, 5), 1);
        check.due("wishTold(2, 5)", x.wishTold(2, 5), 1);
    }

    /**
     * Promise 22, alone: "(those of other KINDS as they are).": a hidden that is on hides, one that is not does
     * not.
     */
    private static void aloneWithOtherKindsAsTheyAre() {
        WishLine x = Check.withLines(4);
        x.wish(1, Kind.ONWARD, 0, 2, 0);
        x.wish(0, Kind.HIDDEN, 0, 3, 0);
        check.due("hidden", x.alone(2, 0, 2, 3, 3), -1);
        x.on(1, false);
        check.due("not hidden", x.alone(2, 0, 2, 3, 3), 0);
        x.wish(2, Kind.SHARED, 0, 3, 0);
        check.due("shared", x.alone(2, 0, 3, 3, 3), 0);
        x.on(2, false);
        check.due("not shared", x.alone(2, 0, 3, 3, 3), -1);
    }

    /** Promise 22, alone: "such that there is a CASE of depth acts at most": as deep as told. */
    private static void aloneByDepth() {
        WishLine x = Check.withLines(3);
        x.wish(1, Kind.ONWARD, 0, 2, 4);
        check.due("depth 2", x.alone(2, 0, 2, 3, 2), -1);
        check.due("depth 3", x.alone(2, 0, 2, 3, 3), 0);
    }

    /** Promise 22, alone: "Of a PROMISE and set of LINES as judge()": none is fine, and has no case. */
    private static void aloneWithNoSet() {
        WishLine x = Check.withLines(3);
        x.wish(1, Kind.ONWARD, 0, 2, 0);
        check.due("no set", x.alone(2, 0, 2, 0, 3), -1);
        check.due("one line", x.alone(2, 0, 2, 1, 3), -1);
        check.due("two lines", x.alone(2, 0, 2, 3, 3), 0);
        check.due("three lines", x.alone(2, 0, 2, 7, 3), 0);
    }

    /**
     * Promise 23, peace: "-1: none, or no such.": numbers that are none such; it is a question, so the status
     * stays.
     */
    private static void peaceRefused() {
        WishLine x = Check.withLines(5);
        x.wish(0, Kind.WISH, 0, 0, 0);
        check.due("peace(0, 0, 0, 1, 0, 2)", x.peace(0, 0, 0, 1, 0, 2), 0);
        for (int[] w : WRONG) {
            String call = "peace(0, " + java.util.Arrays.toString(w) + ")";
            check.done(x, call, x.peace(0, w[0], w[1], w[2], w[3], w[4]), -1);
        }
        x.take(9);
        check.due("peace(0, 0, 0, 1, 0, 2)", x.peace(0, 0, 0, 1, 0, 2), 0);
        check.due("status()", x.status(), 1);
    }

    /** Promise 23, peace: "-1: none, or no such.": no such wish. */
    private static void peaceOfNoWish() {
        WishLine x = Check.withLines(2);
        x.wish(0, Kind.WISH, 0, 0, 0);
        int[] none = {-1, 1, 23, 24, MAX, MIN};
        for (int wish : none) {
            check.due("peace(" + wish + ", 0, 0, 1, 0, 1)", x.peace(wish, 0, 0, 1, 0, 1), -1);
        }
    }

    /**
     * Promise 23, peace: "The least RANK 0 .. 9 that a WISH (of any KIND) can have, others as they are, such that
     * there is no CASE of depth acts at most.": 0.
     */
    private static void peaceAtTheFirstRank() {
        WishLine x = Check.withLines(3);
        x.wish(1, Kind.ONWARD, 1, 2, 0);
        x.wish(1, Kind.SHUT, 9, 0, 3);
        check.due("peace(1, 2, 0, 2, 3, 3)", x.peace(1, 2, 0, 2, 3, 3), 0);
        check.due("wishTold(1, 2)", x.wishTold(1, 2), 9);
        check.due("judge(2, 0, 2, 3, 3)", x.judge(2, 0, 2, 3, 3), 1);
    }

    /** Promise 23, peace: "The least RANK 0 .. 9": 9, behind all others. */
    private static void peaceAtTheLastRank() {
        WishLine x = Check.withLines(3);
        x.wish(1, Kind.ONWARD, 0, 2, 0);
        x.wish(1, Kind.SHUT, 8, 0, 3);
        check.due("a shut of rank 8", x.peace(0, 2, 0, 2, 3, 3), 9);
        x.rank(1, 9);
        check.due("a shut of rank 9, with a greater number", x.peace(0, 2, 0, 2, 3, 3), -1);
    }

    /** Promise 23, peace: "The least RANK 0 .. 9": of like ranks the numbers decide. */
    private static void peaceAtALikeRank() {
        WishLine x = Check.withLines(3);
        x.wish(1, Kind.SHUT, 5, 0, 3);
        x.wish(1, Kind.ONWARD, 0, 2, 0);
        check.due("the onward has the greater number", x.peace(1, 2, 0, 2, 3, 3), 5);
        x.rank(0, 0);
        check.due("at rank 0 already", x.peace(1, 2, 0, 2, 3, 3), 0);
        WishLine y = Check.withLines(3);
        y.wish(1, Kind.ONWARD, 0, 2, 0);
        y.wish(1, Kind.SHUT, 5, 0, 3);
        check.due("the onward has the lesser number", y.peace(0, 2, 0, 2, 3, 3), 6);
    }

    /** Promise 23, peace: "-1: none, or no such.": no rank makes peace. */
    private static void peaceNever() {
        WishLine x = Check.withLines(3);
        x.wish(1, Kind.ONWARD, 5, 2, 0);
        check.due("alone in its order", x.peace(0, 2, 0, 2, 3, 3), -1);
        check.due("it can speak", x.peace(0, 0, 1, 0, 3, 3), -1);
        check.due("it does not matter", x.peace(0, 2, 0, 1, 3, 3), 0);
    }

    /**
     * Promise 23, peace: "that a WISH (of any KIND) can have, others as they are": of kinds that never act each
     * rank is like another.
     */
    private static void peaceOfAnyKind() {
        for (int kind = 0; kind < 8; kind++) {
            WishLine x = Check.withLines(3);
            x.wish(2, kind, 7, 2, 0);
            check.due("peace there is, of kind " + kind, x.peace(0, 0, 0, 1, 3, 1), 0);
            check.due("peace there is not, of kind " + kind, x.peace(0, 0, 0, 1, 3, 2), -1);
            check.due("its rank", x.wishTold(0, 2), 7);
        }
    }

    /** Promise 23, peace: "that a WISH (of any KIND) can have, others as they are": one that is not on stays so. */
    private static void peaceOfOneThatIsNotOn() {
        WishLine x = Check.withLines(3);
        x.wish(1, Kind.ONWARD, 5, 2, 0);
        x.wish(1, Kind.SHUT, 9, 0, 3);
        x.on(1, false);
        check.due("a shut that is not on", x.peace(1, 2, 0, 2, 3, 3), -1);
        x.on(1, true);
        check.due("a shut that is on", x.peace(1, 2, 0, 2, 3, 3), 0);
        x.on(0, false);
        check.due("an onward that is not on", x.peace(0, 2, 0, 2, 3, 3), 0);
    }

    /**
     * Promise 23, peace: "such that there is no CASE of depth acts at most. -1: none, or no such.": as deep as
     * told.
     */
    private static void peaceByDepth() {
        WishLine x = Check.withLines(3);
        x.wish(1, Kind.ONWARD, 0, 2, 4);
        check.due("depth 2", x.peace(0, 2, 0, 2, 3, 2), 0);
        check.due("depth 3", x.peace(0, 2, 0, 2, 3, 3), -1);
    }
}
