/** Prints every answer that is not the one that is due, and ends with exit code 1 if there was one. */
final class Check {
    private int wrong;
    private int asked;

    void due(String call, long got, long want) {
        asked++;
        if (got != want) {
            wrong++;
            System.out.println(call + " answered " + got + ", due is " + want);
        }
    }

    /** A call that was refused answers -1 and leaves its status. */
    void refused(WishLine x, String call, int got, int status) {
        due(call, got, -1);
        due(call + " then status()", x.status(), status);
    }

    /** A call that was done answers as told and leaves the status 0. */
    void done(WishLine x, String call, int got, int want) {
        due(call, got, want);
        due(call + " then status()", x.status(), 0);
    }

    void end() {
        System.out.println(wrong == 0 ? asked + " answers are as due" : wrong + " answers are not as due");
        if (wrong != 0) {
            System.exit(1);
        }
    }

    static WishLine withLines(int n) {
        WishLine x = new WishLine();
        for (int i = 0; i < n; i++) {
            x.line();
        }
        return x;
    }
}
