/** The kinds of wishes, by the names that the document gives them. */
final class Kind {
    static final int WISH = 0;
    static final int ONWARD = 1;
    static final int SHUT = 2;
    static final int HIDDEN = 3;
    static final int WAITING = 4;
    static final int BACK = 5;
    static final int SHARED = 6;
    static final int PAID = 7;

    private Kind() {
    }
}
