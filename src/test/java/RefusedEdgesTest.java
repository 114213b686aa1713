import java.util.ArrayList;
import java.util.List;
import java.util.function.Supplier;
import java.util.function.ToIntFunction;

/** Refused calls: each answers -1, tells its status, and leaves all as it was. */
public final class RefusedEdgesTest {
    private static final Check check = new Check();
    private static final int MAX = Integer.MAX_VALUE;
    private static final int MIN = Integer.MIN_VALUE;

    private static final List<String> names = new ArrayList<>();
    private static final List<Integer> statuses = new ArrayList<>();
    private static final List<ToIntFunction<WishLine>> calls = new ArrayList<>();

    public static void main(String[] args) {
        noneSuch();
        noRoom();
        notSo();
        refusedByTheHost();
        onlyTenRestores();
        noTickAboveTheLast();
        emptyHouse();
        lowestOfSeveral();
        check.end();
    }

    private static void refuses(int status, String name, ToIntFunction<WishLine> call) {
        names.add(name);
        statuses.add(status);
        calls.add(call);
    }

    /** Tries every call that was listed, each on objects of its own. */
    private static void tryAll(Supplier<WishLine> made) {
        int[] before = AllAnswers.withImage(made);
        for (int i = 0; i < calls.size(); i++) {
            ToIntFunction<WishLine> call = calls.get(i);
            WishLine x = made.get();
            check.refused(x, names.get(i), call.applyAsInt(x), statuses.get(i));
            int[] then = AllAnswers.withImage(() -> {
                WishLine y = made.get();
                call.applyAsInt(y);
                return y;
            });
            check.dueSame("behind " + names.get(i), then, before);
        }
        names.clear();
        statuses.clear();
        calls.clear();
    }

    /** A house with something of everything: calls of each state, a wish back, an image, a case, a trace, sheets. */
    private static WishLine house() {
        WishLine x = Check.withLines(7);
        x.wish(1, Kind.WAITING, 2, 0, 0);
        x.wish(1, Kind.ONWARD, 5, 3, 5);
        x.wish(2, Kind.SHUT, 3, 0, 7);
        x.wish(4, Kind.BACK, 1, 2, 3);
        x.wish(5, Kind.HIDDEN, 1, 2, 3);
        x.on(2, false);
        x.dial(0, 1);
        x.take(1);
        x.tick();
        x.image();
        x.dial(2, 1);
        x.dial(4, 0);
        x.dial(5, 6);
        x.tick();
        x.restore();
        x.dial(2, 1);
        x.dial(4, 0);
        x.dial(5, 6);
        x.tick();
        x.judge(1, 0, 0, 7, 3);
        x.act(4, 3, 9);
        for (int sheet = 0; sheet < 3; sheet++) {
            x.sheet(sheet, sheet, 6);
            for (int i = 0; i < 6; i++) {
                x.cell(sheet, i, i < 5 ? i : -7);
            }
        }
        return x;
    }

    /**
     * Section 4, "1 a number is none such or outside what is told;" with "Such calls answer -1 and change nothing
     * else.": of each call.
     */
    private static void noneSuch() {
        refuses(1, "wish(7, 0, 0, 0, 0)", x -> x.wish(7, 0, 0, 0, 0));
        refuses(1, "wish(0, 8, 0, 0, 0)", x -> x.wish(0, 8, 0, 0, 0));
        refuses(1, "wish(0, 0, 10, 0, 0)", x -> x.wish(0, 0, 10, 0, 0));
        refuses(1, "wish(0, 0, 0, 7, 0)", x -> x.wish(0, 0, 0, 7, 0));
        refuses(1, "wish(0, 0, 0, 0, 32)", x -> x.wish(0, 0, 0, 0, 32));
        refuses(1, "wish(0, 1, 0, 0, 2)", x -> x.wish(0, 1, 0, 0, 2));
        refuses(1, "on(5, false)", x -> x.on(5, false));
        refuses(1, "on(-1, true)", x -> x.on(-1, true));
        refuses(1, "rank(5, 0)", x -> x.rank(5, 0));
        refuses(1, "rank(0, 10)", x -> x.rank(0, 10));
        refuses(1, "rank(0, -1)", x -> x.rank(0, -1));
        refuses(1, "dial(3, 7)", x -> x.dial(3, 7));
        refuses(1, "dial(7, 3)", x -> x.dial(7, 3));
        refuses(1, "dial(-1, 3)", x -> x.dial(-1, 3));
        refuses(1, "take(7)", x -> x.take(7));
        refuses(1, "take(-1)", x -> x.take(-1));
        refuses(1, "down(7)", x -> x.down(7));
        refuses(1, "down(min)", x -> x.down(MIN));
        refuses(1, "judge(3, 0, 1, 3, 2)", x -> x.judge(3, 0, 1, 3, 2));
        refuses(1, "judge(0, 0, 1, 15, 2)", x -> x.judge(0, 0, 1, 15, 2));
        refuses(1, "judge(0, 0, 1, 128, 2)", x -> x.judge(0, 0, 1, 128, 2));
        refuses(1, "judge(0, 0, 1, 3, 4)", x -> x.judge(0, 0, 1, 3, 4));
        refuses(1, "sheet(4, 0, 1)", x -> x.sheet(4, 0, 1));
        refuses(1, "sheet(0, 3, 1)", x -> x.sheet(0, 3, 1));
        refuses(1, "sheet(1, 1, 41)", x -> x.sheet(1, 1, 41));
        refuses(1, "sheet(1, 1, -1)", x -> x.sheet(1, 1, -1));
        refuses(1, "sheet(-1, -1, 0)", x -> x.sheet(-1, -1, 0));
        refuses(1, "cell(1, 0, 1001)", x -> x.cell(1, 0, 1001));
        refuses(1, "cell(4, 0, 1)", x -> x.cell(4, 0, 1));
        refuses(1, "order(4, 1, 0)", x -> x.order(4, 1, 0));
        refuses(1, "order(1, 3, 0)", x -> x.order(1, 3, 0));
        refuses(1, "act(5, 0, 1)", x -> x.act(5, 0, 1));
        refuses(1, "act(0, 4, 1)", x -> x.act(0, 4, 1));
        refuses(1, "forge(7, 0, 0)", x -> x.forge(7, 0, 0));
        refuses(1, "forge(0, 101, 0)", x -> x.forge(0, 101, 0));
        refuses(1, "forge(0, 0, max)", x -> x.forge(0, 0, MAX));
        tryAll(RefusedEdgesTest::house);
    }

    /** A house without room for lines, wishes, calls or wishes back. */
    private static WishLine fullHouse() {
        WishLine x = Check.withLines(8);
        for (int i = 0; i < 24; i++) {
            x.wish(i % 8, i < 8 ? Kind.BACK : Kind.SHUT, i % 10, i % 8, 0);
        }
        for (int i = 0; i < 58; i++) {
            x.dial(i % 8, i % 8);
        }
        x.image();
        x.dial(0, 1);
        x.take(1);
        x.dial(2, 3);
        x.sheet(0, 2, 5);
        return x;
    }

    /** Section 4, "2 there is no room;" with "Such calls answer -1 and change nothing else." */
    private static void noRoom() {
        refuses(2, "line()", x -> x.line());
        refuses(2, "wish(0, 0, 0, 0, 0)", x -> x.wish(0, 0, 0, 0, 0));
        refuses(2, "dial(4, 5)", x -> x.dial(4, 5));
        refuses(2, "dial(0, 5)", x -> x.dial(0, 5));
        refuses(2, "order(0, 2, 0)", x -> x.order(0, 2, 0));
        tryAll(RefusedEdgesTest::fullHouse);
    }

    /** Section 4, "3 it is not so (as told);" with "Such calls answer -1 and change nothing else." */
    private static void notSo() {
        refuses(3, "dial(0, 3)", x -> x.dial(0, 3));
        refuses(3, "dial(1, 3)", x -> x.dial(1, 3));
        refuses(3, "dial(2, 3)", x -> x.dial(2, 3));
        refuses(3, "dial(6, 6)", x -> x.dial(6, 6));
        refuses(3, "take(0)", x -> x.take(0));
        refuses(3, "take(1)", x -> x.take(1));
        refuses(3, "take(3)", x -> x.take(3));
        refuses(3, "down(3)", x -> x.down(3));
        refuses(3, "down(6)", x -> x.down(6));
        refuses(3, "order(0, 0, 1)", x -> x.order(0, 0, 1));
        refuses(3, "order(2, 2, 1)", x -> x.order(2, 2, 1));
        tryAll(RefusedEdgesTest::house);
        refuses(3, "restore()", x -> x.restore());
        tryAll(() -> Check.withLines(3));
    }

    /** Section 4, "10 .. 15 the host refused it" with "Such calls answer -1 and change nothing else." */
    private static void refusedByTheHost() {
        refuses(10, "cell(3, 0, 1)", x -> x.cell(3, 0, 1));
        refuses(12, "cell(1, 6, 1)", x -> x.cell(1, 6, 1));
        refuses(12, "cell(1, -1, 1)", x -> x.cell(1, -1, 1));
        refuses(10, "order(3, 0, 0)", x -> x.order(3, 0, 0));
        refuses(11, "order(0, 1, 0)", x -> x.order(0, 1, 0));
        refuses(12, "order(0, 0, 2)", x -> x.order(0, 0, 2));
        refuses(12, "order(0, 0, -1)", x -> x.order(0, 0, -1));
        refuses(10, "forge(0, 0, 5)", x -> x.forge(0, 0, 5));
        refuses(11, "forge(0, 1, 0)", x -> x.forge(0, 1, 0));
        refuses(13, "forge(1, -1, 0)", x -> x.forge(1, -1, 0));
        refuses(10, "forge(2, 0, 3)", x -> x.forge(2, 0, 3));
        refuses(11, "forge(2, 0, 0)", x -> x.forge(2, 0, 0));
        refuses(12, "forge(2, 6, 1)", x -> x.forge(2, 6, 1));
        refuses(10, "forge(3, 0, 3)", x -> x.forge(3, 0, 3));
        refuses(11, "forge(3, 0, 1)", x -> x.forge(3, 0, 1));
        refuses(12, "forge(3, 4, 0)", x -> x.forge(3, 4, 0));
        refuses(14, "forge(4, 0, 0)", x -> x.forge(4, 0, 0));
        refuses(15, "forge(5, 0, 0)", x -> x.forge(5, 0, 0));
        refuses(10, "forge(6, 0, 0)", x -> x.forge(6, 0, 0));
        tryAll(RefusedEdgesTest::house);
    }

    /**
     * Promise 11, restore: "STATUS 2 (this was done 10 times), 3 (there is none)." with "Such calls answer -1 and
     * change nothing else."
     */
    private static void onlyTenRestores() {
        refuses(2, "the 11th restore()", x -> x.restore());
        tryAll(() -> {
            WishLine x = house();
            for (int i = 0; i < 9; i++) {
                x.restore();
            }
            x.dial(5, 6);
            x.tick();
            return x;
        });
    }

    /**
     * Promise 9, tick: "STATUS 2 (it would be above 1000)." with "Such calls answer -1 and change nothing else.":
     * a call that speaks costs no more.
     */
    private static void noTickAboveTheLast() {
        refuses(2, "the 1001st tick()", x -> x.tick());
        tryAll(() -> {
            WishLine x = Check.withLines(4);
            x.wish(3, Kind.ONWARD, 0, 2, 4);
            for (int i = 0; i < 999; i++) {
                x.tick();
            }
            x.dial(0, 1);
            x.take(1);
            x.dial(2, 3);
            x.tick();
            return x;
        });
    }

    /** Promise 1, "No LINES, WISHES, CALLS.": a refused call leaves it so. */
    private static void emptyHouse() {
        refuses(1, "wish(0, 0, 0, 0, 0)", x -> x.wish(0, 0, 0, 0, 0));
        refuses(1, "on(0, true)", x -> x.on(0, true));
        refuses(1, "rank(0, 0)", x -> x.rank(0, 0));
        refuses(1, "dial(0, 0)", x -> x.dial(0, 0));
        refuses(1, "take(0)", x -> x.take(0));
        refuses(1, "down(0)", x -> x.down(0));
        refuses(1, "judge(1, 0, 0, 0, 1)", x -> x.judge(1, 0, 0, 0, 1));
        refuses(1, "act(0, 0, 0)", x -> x.act(0, 0, 0));
        refuses(3, "restore()", x -> x.restore());
        refuses(10, "cell(0, 0, 0)", x -> x.cell(0, 0, 0));
        refuses(10, "order(0, 0, 0)", x -> x.order(0, 0, 0));
        refuses(10, "forge(0, 0, 0)", x -> x.forge(0, 0, 0));
        tryAll(WishLine::new);
    }

    /** Section 4, "Where several hold, the lowest." with "Such calls answer -1 and change nothing else." */
    private static void lowestOfSeveral() {
        refuses(1, "no such line, no room", x -> x.dial(8, 0));
        refuses(1, "no such line, no room, not free", x -> x.dial(0, 8));
        refuses(2, "no room, not free", x -> x.dial(0, 1));
        refuses(1, "no such kind, no room", x -> x.wish(0, 8, 0, 0, 0));
        refuses(1, "no such sheet, no room", x -> x.order(4, 0, 0));
        refuses(2, "no room, missing", x -> x.order(1, 0, 0));
        refuses(1, "no such number, missing", x -> x.cell(1, 0, 1001));
        refuses(10, "missing, outside", x -> x.cell(1, -1, 0));
        refuses(10, "missing, outside", x -> x.forge(2, -1, 1));
        refuses(11, "another sort, outside", x -> x.forge(3, -1, 0));
        tryAll(RefusedEdgesTest::fullHouse);
    }
}
