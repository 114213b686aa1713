import java.util.ArrayList;
import java.util.List;

/**
 * The answers to all questions of the state (but sheets, the case and the trace). These are more
 * calls than the document promises for one object; the tests rely on it that questions change nothing.
 */
final class AllAnswers {
    private AllAnswers() {
    }

    static int[] of(WishLine x) {
        List<Integer> all = new ArrayList<>();
        for (int what = 0; what <= 5; what++) {
            all.add(x.count(what));
        }
        for (int wish = 0; wish < 25; wish++) {
            for (int what = 0; what <= 6; what++) {
                all.add(x.wishTold(wish, what));
            }
        }
        for (int line = 0; line < 9; line++) {
            for (int what = 0; what < 30; what++) {
                all.add(x.lineTold(line, what));
            }
        }
        for (int call = 0; call < 61; call++) {
            ofCall(x, call, all);
        }
        for (int i = 0; i < 9; i++) {
            all.add(x.backs(i, 0));
            all.add(x.backs(i, 1));
        }
        int[] answers = new int[all.size()];
        for (int i = 0; i < answers.length; i++) {
            answers[i] = all.get(i);
        }
        return answers;
    }

    private static void ofCall(WishLine x, int call, List<Integer> all) {
        for (int what = 0; what <= 8; what++) {
            all.add(x.call(call, what));
        }
        for (int i = 0; i < 12; i++) {
            all.add(x.row(call, i));
            all.add(x.piece(call, i));
            all.add(x.acted(call, i));
        }
        for (int line = 0; line < 9; line++) {
            all.add(x.tells(call, line));
        }
    }
}
