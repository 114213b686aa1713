import java.util.ArrayList;
import java.util.List;
import java.util.function.Supplier;
import java.util.function.ToIntFunction;

/** The answers to all questions, and what else shows the state: sheets, the image and how often it was restored. */
final class AllAnswers {
    // An object is promised 512 calls: some questions take two, and what makes it has the rest.
    private static final int ASKED_OF_ONE = 180;

    private static final List<String> NAMES = new ArrayList<>();
    private static final List<ToIntFunction<WishLine>> QUESTIONS = new ArrayList<>();
    private static final int OF_THE_HOUSE;
    private static final int BUT_THE_IMAGE;

    static {
        for (int i = 0; i <= 5; i++) {
            int what = i;
            add("count(" + what + ")", x -> x.count(what));
        }
        wishes();
        lines();
        for (int call = 0; call < 61; call++) {
            ofCall(call);
        }
        for (int k = 0; k < 18; k++) {
            int i = k / 2;
            int what = k % 2;
            add("backs(" + i + ", " + what + ")", x -> x.backs(i, what));
        }
        OF_THE_HOUSE = QUESTIONS.size();
        caseAndTrace();
        sheets();
        BUT_THE_IMAGE = QUESTIONS.size();
        for (int i = 0; i < 11; i++) {
            add("restore()", x -> x.restore() * 100 + x.status());
        }
    }

    private AllAnswers() {
    }

    private static void add(String name, ToIntFunction<WishLine> question) {
        NAMES.add(name);
        QUESTIONS.add(question);
    }

    private static void wishes() {
        for (int i = 0; i < 25; i++) {
            for (int k = 0; k <= 6; k++) {
                int wish = i;
                int what = k;
                add("wishTold(" + wish + ", " + what + ")", x -> x.wishTold(wish, what));
            }
        }
    }

    private static void lines() {
        for (int i = 0; i < 9; i++) {
            for (int k = 0; k < 30; k++) {
                int line = i;
                int what = k;
                add("lineTold(" + line + ", " + what + ")", x -> x.lineTold(line, what));
            }
        }
    }

    private static void ofCall(int call) {
        for (int k = 0; k <= 8; k++) {
            int what = k;
            add("call(" + call + ", " + what + ")", x -> x.call(call, what));
        }
        for (int k = 0; k < 12; k++) {
            int i = k;
            add("row(" + call + ", " + i + ")", x -> x.row(call, i));
            add("piece(" + call + ", " + i + ")", x -> x.piece(call, i));
            add("acted(" + call + ", " + i + ")", x -> x.acted(call, i));
        }
        for (int k = 0; k < 9; k++) {
            int line = k;
            add("tells(" + call + ", " + line + ")", x -> x.tells(call, line));
        }
    }

    private static void caseAndTrace() {
        add("count(6)", x -> x.count(6));
        add("count(7)", x -> x.count(7));
        for (int k = 0; k < 4; k++) {
            int i = k;
            add("actOf(" + i + ")", x -> x.actOf(i));
        }
        for (int k = 0; k < 52; k++) {
            int i = k;
            add("trace(" + i + ")", x -> x.trace(i));
        }
    }

    /** Shorts one by one, bytes by sums, and ints by the wishes that they tell. */
    private static void sheets() {
        for (int k = 0; k < 4 * 41; k++) {
            int sheet = k / 41;
            int place = k % 41;
            add("forge(2, " + place + ", " + sheet + ")", x -> x.forge(2, place, sheet) * 100 + x.status());
        }
        for (int k = 0; k < 4 * 4; k++) {
            int sheet = k / 4;
            int n = k % 4;
            add("forge(3, " + n + ", " + sheet + ")", x -> x.forge(3, n, sheet) * 100 + x.status());
        }
        for (int k = 0; k < 4 * 3; k++) {
            int sheet = k / 3;
            int sort = k % 3;
            add("order(" + sheet + ", " + sort + ", 0)", x -> x.order(sheet, sort, 0) * 100 + x.status());
            add("wishTold of the last, 2", x -> x.wishTold(x.count(1) - 1, 2));
        }
    }

    static String question(int i) {
        return NAMES.get(i);
    }

    /** Of one object, without case, trace, sheets and image; more calls than one object is promised. */
    static int[] of(WishLine x) {
        int[] answers = new int[OF_THE_HOUSE];
        for (int i = 0; i < answers.length; i++) {
            answers[i] = QUESTIONS.get(i).applyAsInt(x);
        }
        return answers;
    }

    /** Of objects that are all made in one way, none of which is asked more than it is promised; not of the image. */
    static int[] of(Supplier<WishLine> made) {
        return answers(made, BUT_THE_IMAGE);
    }

    static int[] withImage(Supplier<WishLine> made) {
        return answers(made, QUESTIONS.size());
    }

    private static int[] answers(Supplier<WishLine> made, int many) {
        int[] answers = new int[many];
        WishLine x = made.get();
        for (int i = 0; i < many; i++) {
            if (i % ASKED_OF_ONE == 0 || i == BUT_THE_IMAGE) {
                x = made.get();
            }
            answers[i] = QUESTIONS.get(i).applyAsInt(x);
        }
        return answers;
    }
}
