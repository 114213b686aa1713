/** Sheets and what the host does, at their edges: the end of section 4, and promises 24 and 27 to 31. */
public final class HostEdgesTest {
    private static final Check check = new Check();
    private static final int MAX = Integer.MAX_VALUE;
    private static final int MIN = Integer.MIN_VALUE;

    public static void main(String[] args) {
        countOfEach();
        countOfAnother();
        allSheetsAreMissing();
        fourSheets();
        sortsOfSheets();
        sizesOfSheets();
        emptySheet();
        allNumbersAreNought();
        sheetBecomesMissing();
        missingWhateverItsSize();
        numbersOfACell();
        placesOfACell();
        cellOfNoSheet();
        cellOfAMissingSheet();
        cellWhereSeveralHold();
        bytesAreCut();
        shortsAndIntsAreNotCut();
        orderAsWishTakesThem();
        orderFromTheFirstAndTheLastPlace();
        orderOfNoSheetOrSort();
        orderWithoutRoom();
        orderOfAMissingSheet();
        orderOfAnotherSort();
        orderOutside();
        orderOfTooFewNumbers();
        orderThatTellsNone();
        orderOfCutBytes();
        orderOfEachSort();
        orderWhereSeveralHold();
        forgeOfAnother();
        forgeOutside();
        forgeOnTheEdge();
        kindByModulo();
        wishByModulo();
        kindOfNoWish();
        kindOfAnother();
        rowOfSoMany();
        rowBelowNought();
        shortByModulo();
        shortOfAnotherSort();
        shortOfAMissingSheet();
        shortOutside();
        bytesFromOneOn();
        bytesBehindTheRow();
        bytesBehindTheSheet();
        bytesBelowNought();
        bytesOfAnEmptySheet();
        bytesOfAnotherSort();
        bytesOfAMissingSheet();
        bytesByModulo();
        rowOfShutOnes();
        rowOfShutByModulo();
        rowOfShutWithNone();
        division();
        divisionByNought();
        failures();
        statusAtFirst();
        statusOfTheLatest();
        statusAndQuestions();
        noneIsBelowNought();
        check.end();
    }

    /**
     * Promise 24, count: "How many: 0 LINES, 1 WISHES, 2 CALLS, 3 THE TICK, 4 WISHES BACK, 5 CALLS that are not
     * ENDED, 6 acts of THE CASE, 7 THE TRACE's bodies.": each with a number of its own.
     */
    private static void countOfEach() {
        WishLine x = Check.withLines(7);
        x.wish(0, Kind.BACK, 0, 0, 0);
        x.wish(1, Kind.BACK, 0, 0, 0);
        x.wish(2, Kind.HIDDEN, 0, 0, 0);
        x.wish(5, Kind.WAITING, 0, 0, 0);
        x.wish(6, Kind.WISH, 0, 0, 0);
        x.on(4, false);
        x.dial(3, 4);
        x.take(4);
        x.dial(0, 3);
        x.dial(0, 4);
        x.dial(1, 3);
        x.dial(5, 5);
        x.dial(5, 6);
        x.dial(2, 5);
        for (int i = 0; i < 8; i++) {
            x.tick();
        }
        x.judge(2, 3, 4, 24, 1);
        x.act(2, 3, 0);
        int[] want = {7, 5, 7, 8, 3, 3, 1, 9};
        for (int what = 0; what < 8; what++) {
            check.due("count(" + what + ")", x.count(what), want[what]);
        }
    }

    /** Promise 24, count: "-1: another." */
    private static void countOfAnother() {
        WishLine x = Check.withLines(3);
        int[] none = {-1, 8, MAX, MIN};
        for (int what : none) {
            check.due("count(" + what + ")", x.count(what), -1);
        }
    }

    /**
     * Section 4, "SHEETS 0 .. 3 are rows of numbers, or missing (as all are at first): of sort 0 (bytes), 1
     * (shorts), 2 (ints)."
     */
    private static void allSheetsAreMissing() {
        WishLine x = Check.withLines(1);
        for (int sheet = 0; sheet < 4; sheet++) {
            check.refused(x, "cell(" + sheet + ", 0, 0)", x.cell(sheet, 0, 0), 10);
            for (int sort = 0; sort < 3; sort++) {
                check.refused(x, "order(" + sheet + ", " + sort + ", 0)", x.order(sheet, sort, 0), 10);
            }
            check.refused(x, "forge(2, 0, " + sheet + ")", x.forge(2, 0, sheet), 10);
            check.refused(x, "forge(3, 0, " + sheet + ")", x.forge(3, 0, sheet), 10);
        }
    }

    /** Section 4, "SHEETS 0 .. 3 are rows of numbers": each has its own numbers, and there is no other. */
    private static void fourSheets() {
        WishLine x = new WishLine();
        for (int sheet = 0; sheet < 4; sheet++) {
            check.done(x, "sheet(" + sheet + ", 1, 40)", x.sheet(sheet, 1, 40), 1);
            check.done(x, "its first number", x.cell(sheet, 0, 10 + sheet), 1);
            check.done(x, "its last number", x.cell(sheet, 39, 20 + sheet), 1);
        }
        for (int sheet = 0; sheet < 4; sheet++) {
            check.done(x, "forge(2, 0, " + sheet + ")", x.forge(2, 0, sheet), 10 + sheet);
            check.done(x, "forge(2, 39, " + sheet + ")", x.forge(2, 39, sheet), 20 + sheet);
        }
        int[] none = {-1, 4, MAX, MIN};
        for (int sheet : none) {
            check.refused(x, "sheet(" + sheet + ", 0, 1)", x.sheet(sheet, 0, 1), 1);
            check.refused(x, "sheet(" + sheet + ", -1, 1)", x.sheet(sheet, -1, 1), 1);
        }
    }

    /** Promise 27, sheet: "A SHEET of a sort (0 .. 2) with n (0 .. 40) numbers, all 0;": the sorts. */
    private static void sortsOfSheets() {
        WishLine x = new WishLine();
        for (int sort = 0; sort <= 2; sort++) {
            check.done(x, "sheet(0, " + sort + ", 6)", x.sheet(0, sort, 6), 1);
            for (int other = 0; other <= 2; other++) {
                int status = other == sort ? 3 : 11;
                check.refused(x, "order(0, " + other + ", 0)", x.order(0, other, 0), status);
            }
        }
        int[] none = {-2, 3, MAX, MIN};
        for (int sort : none) {
            check.refused(x, "sheet(0, " + sort + ", 1)", x.sheet(0, sort, 1), 1);
        }
        check.refused(x, "it is still of ints", x.order(0, 2, 0), 3);
    }

    /** Promise 27, sheet: "A SHEET of a sort (0 .. 2) with n (0 .. 40) numbers, all 0;": how many. */
    private static void sizesOfSheets() {
        WishLine x = new WishLine();
        for (int n = 0; n <= 40; n++) {
            check.done(x, "sheet(1, 1, " + n + ")", x.sheet(1, 1, n), 1);
            check.refused(x, "the number behind the last", x.cell(1, n, 1), 12);
            if (n > 0) {
                check.done(x, "the last number", x.cell(1, n - 1, 1), 1);
            }
        }
        int[] none = {-1, 41, MAX, MIN};
        for (int n : none) {
            check.refused(x, "sheet(1, 1, " + n + ")", x.sheet(1, 1, n), 1);
        }
        check.done(x, "the old one stands", x.forge(2, 39, 1), 1);
    }

    /** Promise 27, sheet: "with n (0 .. 40) numbers": none; it is not missing, but has no place. */
    private static void emptySheet() {
        WishLine x = Check.withLines(1);
        for (int sort = 0; sort <= 2; sort++) {
            x.sheet(0, sort, 0);
            check.refused(x, "cell(0, 0, 0)", x.cell(0, 0, 0), 12);
            check.refused(x, "order(0, sort, 0)", x.order(0, sort, 0), 12);
            check.refused(x, "forge(2, 0, 0)", x.forge(2, 0, 0), sort == 1 ? 12 : 11);
            check.refused(x, "forge(3, 0, 0)", x.forge(3, 0, 0), sort == 0 ? 12 : 11);
        }
    }

    /** Promise 27, sheet: "numbers, all 0;": also in place of one that had others, smaller or greater. */
    private static void allNumbersAreNought() {
        WishLine x = new WishLine();
        int[] sizes = {40, 40, 3, 40, 1};
        for (int n : sizes) {
            x.sheet(3, 1, n);
            for (int i = 0; i < n; i++) {
                check.due("forge(2, " + i + ", 3)", x.forge(2, i, 3), 0);
                x.cell(3, i, 1 + i);
            }
        }
        x.sheet(3, 0, 4);
        check.done(x, "forge(3, 3, 3)", x.forge(3, 3, 3), 0);
    }

    /** Promise 27, sheet: "sort -1: it is missing from now on (n does not matter). Answers 1. STATUS 1." */
    private static void sheetBecomesMissing() {
        WishLine x = new WishLine();
        for (int sort = 0; sort <= 2; sort++) {
            x.sheet(2, sort, 5);
            check.done(x, "sheet(2, -1, 0)", x.sheet(2, -1, 0), 1);
            check.refused(x, "cell(2, 0, 0)", x.cell(2, 0, 0), 10);
        }
        x.sheet(2, 1, 5);
        check.done(x, "it is new again", x.cell(2, 4, 1), 1);
    }

    /** Promise 27, sheet: "(n does not matter)": of a sheet that was missing already, too. */
    private static void missingWhateverItsSize() {
        WishLine x = new WishLine();
        int[] sizes = {-1, 0, 40, 41, MAX, MIN};
        for (int n : sizes) {
            check.done(x, "sheet(1, -1, " + n + ")", x.sheet(1, -1, n), 1);
            check.refused(x, "cell(1, 0, 0)", x.cell(1, 0, 0), 10);
        }
    }

    /**
     * Promise 28, cell: "Number i of a SHEET becomes v (-1000 .. 1000; of sort 0 cut to its lowest 8 bits, with
     * sign).": the numbers.
     */
    private static void numbersOfACell() {
        WishLine x = new WishLine();
        for (int sort = 0; sort <= 2; sort++) {
            x.sheet(0, sort, 1);
            check.done(x, "cell(0, 0, 1000)", x.cell(0, 0, 1000), 1);
            check.done(x, "cell(0, 0, -1000)", x.cell(0, 0, -1000), 1);
            int[] none = {1001, -1001, MAX, MIN};
            for (int v : none) {
                check.refused(x, "cell(0, 0, " + v + ")", x.cell(0, 0, v), 1);
            }
        }
    }

    /** Promise 28, cell: "Answers 1. STATUS 1, 10, 12.": 12, a place outside. */
    private static void placesOfACell() {
        WishLine x = new WishLine();
        x.sheet(0, 1, 3);
        check.done(x, "cell(0, 0, 7)", x.cell(0, 0, 7), 1);
        check.done(x, "cell(0, 2, 9)", x.cell(0, 2, 9), 1);
        int[] none = {-1, 3, 39, 40, MAX, MIN};
        for (int i : none) {
            check.refused(x, "cell(0, " + i + ", 1)", x.cell(0, i, 1), 12);
        }
        int[] want = {7, 0, 9};
        for (int i = 0; i < 3; i++) {
            check.done(x, "forge(2, " + i + ", 0)", x.forge(2, i, 0), want[i]);
        }
    }

    /** Promise 28, cell: "Answers 1. STATUS 1, 10, 12.": 1, no such sheet. */
    private static void cellOfNoSheet() {
        WishLine x = new WishLine();
        for (int sheet = 0; sheet < 4; sheet++) {
            x.sheet(sheet, 1, 3);
        }
        int[] none = {-1, 4, MAX, MIN};
        for (int sheet : none) {
            check.refused(x, "cell(" + sheet + ", 0, 1)", x.cell(sheet, 0, 1), 1);
        }
    }

    /** Promise 28, cell: "Answers 1. STATUS 1, 10, 12.": 10, a missing sheet. */
    private static void cellOfAMissingSheet() {
        WishLine x = new WishLine();
        x.sheet(1, 1, 3);
        check.refused(x, "cell(0, 0, 1)", x.cell(0, 0, 1), 10);
        check.refused(x, "cell(2, 0, 1)", x.cell(2, 0, 1), 10);
        check.done(x, "cell(1, 0, 1)", x.cell(1, 0, 1), 1);
    }

    /** Section 4, "Where several hold, the lowest.": of a cell. */
    private static void cellWhereSeveralHold() {
        WishLine x = new WishLine();
        check.refused(x, "missing, outside", x.cell(0, -1, 0), 10);
        check.refused(x, "no such number, missing", x.cell(0, 0, 1001), 1);
        check.refused(x, "no such sheet, outside", x.cell(4, -1, 0), 1);
        x.sheet(0, 0, 1);
        check.refused(x, "no such number, outside", x.cell(0, 1, -1001), 1);
    }

    /** Promise 28, cell: "of sort 0 cut to its lowest 8 bits, with sign)" */
    private static void bytesAreCut() {
        WishLine x = new WishLine();
        x.sheet(0, 0, 2);
        int[] told = {0, 127, 128, 129, 255, 256, 257, 383, 384, 511, 512, 1000, -1, -128, -129, -255, -256, -257, -1000};
        int[] want = {0, 127, -128, -127, -1, 0, 1, 127, -128, -1, 0, -24, -1, -128, 127, 1, 0, -1, 24};
        for (int i = 0; i < told.length; i++) {
            check.done(x, "cell(0, 1, " + told[i] + ")", x.cell(0, 1, told[i]), 1);
            check.done(x, "then forge(3, 1, 0)", x.forge(3, 1, 0), want[i]);
        }
    }

    /**
     * Promise 28, cell: "Number i of a SHEET becomes v (-1000 .. 1000; of sort 0 cut": shorts and ints are not
     * cut.
     */
    private static void shortsAndIntsAreNotCut() {
        WishLine x = Check.withLines(1);
        x.sheet(1, 1, 1);
        int[] told = {128, 256, 1000, -129, -1000};
        for (int v : told) {
            x.cell(1, 0, v);
            check.done(x, "forge(2, 0, 1)", x.forge(2, 0, 1), v);
        }
        for (int sort = 0; sort <= 2; sort++) {
            x.sheet(sort, sort, 5);
            x.cell(sort, 0, 256);
            check.due("owner 256 of sort " + sort, x.order(sort, sort, 0), sort == 0 ? 0 : -1);
            check.due("status()", x.status(), sort == 0 ? 0 : 3);
        }
    }

    private static void fill(WishLine x, int sheet, int from, int... numbers) {
        for (int i = 0; i < numbers.length; i++) {
            x.cell(sheet, from + i, numbers[i]);
        }
    }

    /**
     * Promise 29, order: "A WISH by five numbers of a SHEET that is taken for one of a sort, from place i on, as
     * wish() takes them: its number."
     */
    private static void orderAsWishTakesThem() {
        WishLine x = Check.withLines(3);
        x.wish(0, 0, 0, 0, 0);
        x.sheet(3, 2, 6);
        fill(x, 3, 1, 2, Kind.ONWARD, 9, 1, 11);
        check.done(x, "order(3, 2, 1)", x.order(3, 2, 1), 1);
        int[] want = {2, 1, 9, 1, 11, 1};
        for (int what = 0; what < 6; what++) {
            check.due("wishTold(1, " + what + ")", x.wishTold(1, what), want[what]);
        }
        check.done(x, "again", x.order(3, 2, 1), 2);
        check.due("count(1)", x.count(1), 3);
    }

    /** Promise 29, order: "from place i on": place 0 and place 35 of a full sheet. */
    private static void orderFromTheFirstAndTheLastPlace() {
        WishLine x = Check.withLines(8);
        x.sheet(0, 1, 40);
        fill(x, 0, 0, 1, 2, 3, 4, 5);
        fill(x, 0, 35, 7, 6, 5, 4, 3);
        check.done(x, "order(0, 1, 0)", x.order(0, 1, 0), 0);
        check.done(x, "order(0, 1, 35)", x.order(0, 1, 35), 1);
        for (int what = 0; what < 5; what++) {
            check.due("wishTold(0, " + what + ")", x.wishTold(0, what), 1 + what);
            check.due("wishTold(1, " + what + ")", x.wishTold(1, what), 7 - what);
        }
        check.refused(x, "order(0, 1, 36)", x.order(0, 1, 36), 12);
    }

    /**
     * Promise 29, order: "STATUS 1 (no such SHEET, sort), 2, 10, 11, 12, 3 (they tell none); these in this
     * order.": 1.
     */
    private static void orderOfNoSheetOrSort() {
        WishLine x = Check.withLines(1);
        x.sheet(0, 0, 5);
        int[] noSheet = {-1, 4, MAX, MIN};
        for (int sheet : noSheet) {
            check.refused(x, "order(" + sheet + ", 0, 0)", x.order(sheet, 0, 0), 1);
        }
        int[] noSort = {-1, 3, MAX, MIN};
        for (int sort : noSort) {
            check.refused(x, "order(0, " + sort + ", 0)", x.order(0, sort, 0), 1);
            check.refused(x, "order(1, " + sort + ", 0)", x.order(1, sort, 0), 1);
        }
    }

    /**
     * Promise 29, order: "STATUS 1 (no such SHEET, sort), 2, 10, 11, 12, 3 (they tell none); these in this
     * order.": 2.
     */
    private static void orderWithoutRoom() {
        WishLine x = Check.withLines(1);
        x.sheet(0, 0, 5);
        for (int i = 0; i < 24; i++) {
            check.done(x, "order(0, 0, 0)", x.order(0, 0, 0), i);
        }
        check.refused(x, "the 25th", x.order(0, 0, 0), 2);
        check.due("count(1)", x.count(1), 24);
    }

    /**
     * Promise 29, order: "STATUS 1 (no such SHEET, sort), 2, 10, 11, 12, 3 (they tell none); these in this
     * order.": 10.
     */
    private static void orderOfAMissingSheet() {
        WishLine x = Check.withLines(1);
        x.sheet(0, 0, 5);
        x.sheet(0, -1, 0);
        for (int sort = 0; sort <= 2; sort++) {
            check.refused(x, "order(0, " + sort + ", 0)", x.order(0, sort, 0), 10);
        }
    }

    /**
     * Promise 29, order: "A WISH by five numbers of a SHEET that is taken for one of a sort": 11, it is of another
     * one.
     */
    private static void orderOfAnotherSort() {
        WishLine x = Check.withLines(1);
        for (int sort = 0; sort <= 2; sort++) {
            x.sheet(sort, sort, 5);
        }
        int made = 0;
        for (int sheet = 0; sheet <= 2; sheet++) {
            for (int sort = 0; sort <= 2; sort++) {
                int got = x.order(sheet, sort, 0);
                check.due("order(" + sheet + ", " + sort + ", 0)", got, sheet == sort ? made : -1);
                check.due("status()", x.status(), sheet == sort ? 0 : 11);
                made += sheet == sort ? 1 : 0;
            }
        }
    }

    /**
     * Promise 29, order: "STATUS 1 (no such SHEET, sort), 2, 10, 11, 12, 3 (they tell none); these in this
     * order.": 12.
     */
    private static void orderOutside() {
        WishLine x = Check.withLines(1);
        x.sheet(0, 0, 7);
        check.done(x, "order(0, 0, 0)", x.order(0, 0, 0), 0);
        check.done(x, "order(0, 0, 2)", x.order(0, 0, 2), 1);
        int[] none = {-1, -4, -5, 3, 6, 7, 40, MAX, MAX - 4, MIN, MIN + 5};
        for (int i : none) {
            check.refused(x, "order(0, 0, " + i + ")", x.order(0, 0, i), 12);
        }
    }

    /** Promise 29, order: "A WISH by five numbers of a SHEET": sheets of fewer than five have no place for it. */
    private static void orderOfTooFewNumbers() {
        WishLine x = Check.withLines(1);
        for (int n = 0; n < 5; n++) {
            x.sheet(0, 2, n);
            check.refused(x, "of " + n + " numbers", x.order(0, 2, 0), 12);
        }
        x.sheet(0, 2, 5);
        check.done(x, "of 5 numbers", x.order(0, 2, 0), 0);
        check.refused(x, "of 5 numbers, from place 1", x.order(0, 2, 1), 12);
    }

    /** Promise 29, order: "3 (they tell none)": each number below and above what wish() takes. */
    private static void orderThatTellsNone() {
        int[][] none = {
            {-1, 0, 0, 0, 0}, {2, 0, 0, 0, 0}, {0, -1, 0, 0, 0}, {0, 8, 0, 0, 0}, {0, 0, -1, 0, 0}, {0, 0, 10, 0, 0},
            {0, 0, 0, -1, 0}, {0, 0, 0, 2, 0}, {0, 0, 0, 0, -1}, {0, 0, 0, 0, 32}, {0, 1, 0, 0, 2}, {0, 1, 0, 0, 12},
            {1000, 0, 0, 0, 0}, {-1000, 0, 0, 0, 0},
        };
        for (int sort = 1; sort <= 2; sort++) {
            WishLine x = Check.withLines(2);
            x.sheet(0, sort, 5);
            for (int[] numbers : none) {
                fill(x, 0, 0, numbers);
                check.refused(x, "order of " + java.util.Arrays.toString(numbers), x.order(0, sort, 0), 3);
            }
            check.due("count(1)", x.count(1), 0);
            fill(x, 0, 0, 1, 7, 9, 1, 31);
            check.done(x, "the greatest numbers", x.order(0, sort, 0), 0);
            fill(x, 0, 0, 0, 0, 0, 0, 0);
            check.done(x, "the least numbers", x.order(0, sort, 0), 1);
        }
    }

    /** Promise 29, order: "as wish() takes them": what cell() cut is taken as it stands there. */
    private static void orderOfCutBytes() {
        WishLine x = Check.withLines(2);
        x.sheet(0, 0, 5);
        fill(x, 0, 0, 257, 258, 265, 512, 287);
        check.done(x, "order(0, 0, 0)", x.order(0, 0, 0), 0);
        int[] want = {1, 2, 9, 0, 31};
        for (int what = 0; what < 5; what++) {
            check.due("wishTold(0, " + what + ")", x.wishTold(0, what), want[what]);
        }
        x.cell(0, 4, 255);
        check.refused(x, "255 stands there as -1", x.order(0, 0, 0), 3);
    }

    /** Promise 29, order: "that is taken for one of a sort": bytes, shorts and ints tell the same wish. */
    private static void orderOfEachSort() {
        WishLine x = Check.withLines(2);
        for (int sort = 0; sort <= 2; sort++) {
            x.sheet(sort, sort, 5);
            fill(x, sort, 0, 1, 6, 4, 0, 30);
            check.done(x, "order of sort " + sort, x.order(sort, sort, 0), sort);
            int[] want = {1, 6, 4, 0, 30, 1};
            for (int what = 0; what < 6; what++) {
                check.due("wishTold(" + sort + ", " + what + ")", x.wishTold(sort, what), want[what]);
            }
        }
    }

    /** Promise 29, order: "these in this order.": of two that hold the one that stands first, so 3 comes last. */
    private static void orderWhereSeveralHold() {
        WishLine x = new WishLine();
        x.sheet(0, 0, 5);
        check.refused(x, "1 and 10", x.order(1, 3, 0), 1);
        check.refused(x, "1 and 12", x.order(0, 3, 9), 1);
        check.refused(x, "10 and 12", x.order(1, 0, -1), 10);
        check.refused(x, "11 and 12", x.order(0, 1, -1), 11);
        check.refused(x, "11 and 3", x.order(0, 1, 0), 11);
        check.refused(x, "12 and 3", x.order(0, 0, 1), 12);
        check.refused(x, "3, as there is no line", x.order(0, 0, 0), 3);
        x.line();
        for (int i = 0; i < 24; i++) {
            x.wish(0, 0, 0, 0, 0);
        }
        check.refused(x, "1 and 2", x.order(4, 0, 0), 1);
        check.refused(x, "2 and 10", x.order(1, 0, 0), 2);
        check.refused(x, "2 and 11", x.order(0, 1, 0), 2);
        check.refused(x, "2 and 12", x.order(0, 0, 1), 2);
        x.cell(0, 0, 9);
        check.refused(x, "2 and 3", x.order(0, 0, 0), 2);
    }

    /**
     * Promise 30, forge: "What the host does, by what (STATUS 1: another; n or k outside -100 .. 100)": another
     * what.
     */
    private static void forgeOfAnother() {
        WishLine x = new WishLine();
        int[] none = {-1, 7, 8, MAX, MIN};
        for (int what : none) {
            check.refused(x, "forge(" + what + ", 1, 0)", x.forge(what, 1, 0), 1);
        }
    }

    /** Promise 30, forge: "n or k outside -100 .. 100)": of every what, whether it looks at that number or not. */
    private static void forgeOutside() {
        WishLine x = Check.withLines(1);
        x.wish(0, Kind.SHUT, 0, 0, 0);
        int[] outside = {101, -101, MAX, MIN};
        for (int what = 0; what <= 6; what++) {
            for (int number : outside) {
                check.refused(x, "forge(" + what + ", " + number + ", 0)", x.forge(what, number, 0), 1);
                check.refused(x, "forge(" + what + ", 1, " + number + ")", x.forge(what, 1, number), 1);
            }
        }
        check.refused(x, "another, and outside", x.forge(7, 101, 101), 1);
    }

    /** Promise 30, forge: "n or k outside -100 .. 100)": -100 and 100 themselves are fine. */
    private static void forgeOnTheEdge() {
        WishLine x = Check.withLines(1);
        for (int i = 0; i < 24; i++) {
            x.wish(0, Kind.SHUT, 0, 0, 0);
        }
        for (int k = -100; k <= 100; k += 200) {
            check.done(x, "forge(0, 2, " + k + ")", x.forge(0, 2, k), 2);
            check.done(x, "forge(1, 100, " + k + ")", x.forge(1, 100, k), 100);
            check.refused(x, "forge(1, -100, " + k + ")", x.forge(1, -100, k), 13);
            check.refused(x, "forge(2, 100, " + k + ")", x.forge(2, 100, k), 10);
            check.refused(x, "forge(3, -100, " + k + ")", x.forge(3, -100, k), 10);
            check.done(x, "forge(4, 100, " + k + ")", x.forge(4, 100, k), 2);
            check.done(x, "forge(5, 100, " + k + ")", x.forge(5, 100, k), 10);
            check.done(x, "forge(5, -100, " + k + ")", x.forge(5, -100, k), -10);
            check.refused(x, "forge(6, -100, " + k + ")", x.forge(6, -100, k), 10);
        }
    }

    /**
     * Promise 30, forge: "0 WISH k modulo 24 is taken for one whose KIND is n modulo 8 (also for numbers below 0) or
     * one under that one (also by others between): 10 (there is no such WISH), 11; answers its KIND.": n.
     */
    private static void kindByModulo() {
        for (int n = -100; n <= 100; n++) {
            int kind = (n + 104) % 8;
            WishLine x = Check.withLines(1);
            x.wish(0, kind, 0, 0, 0);
            check.done(x, "forge(0, " + n + ", 0)", x.forge(0, n, 0), kind);
            x.wish(0, kind == 5 ? 6 : 5, 0, 0, 0);
            check.due("forge(0, " + n + ", 1)", x.forge(0, n, 1), kind == 0 ? 5 : -1);
        }
    }

    /** Promise 30, forge: "0 WISH k modulo 24 is taken": k from -100 to 100, with all 24 wishes. */
    private static void wishByModulo() {
        WishLine x = Check.withLines(1);
        for (int i = 0; i < 24; i++) {
            x.wish(0, i * 5 % 8, 0, 0, 0);
        }
        for (int k = -100; k <= 100; k++) {
            int wish = (k + 120) % 24;
            check.done(x, "forge(0, 0, " + k + ")", x.forge(0, 0, k), wish * 5 % 8);
        }
    }

    /** Promise 30, forge: "10 (there is no such WISH), 11; answers its KIND.": 10, whatever kind is asked. */
    private static void kindOfNoWish() {
        WishLine x = Check.withLines(1);
        check.refused(x, "no wish at all", x.forge(0, 0, 0), 10);
        for (int i = 0; i < 23; i++) {
            x.wish(0, 0, 0, 0, 0);
        }
        for (int n = 0; n < 8; n++) {
            check.refused(x, "forge(0, " + n + ", 23)", x.forge(0, n, 23), 10);
            check.refused(x, "forge(0, " + n + ", -1)", x.forge(0, n, -1), 10);
            check.refused(x, "forge(0, " + n + ", 47)", x.forge(0, n, 47), 10);
        }
        check.done(x, "forge(0, 0, 22)", x.forge(0, 0, 22), 0);
    }

    /**
     * Promise 30, forge: "or one under that one (also by others between)": a hidden for a wish, by a shut between;
     * not the other way round.
     */
    private static void kindOfAnother() {
        WishLine x = Check.withLines(1);
        x.wish(0, Kind.HIDDEN, 0, 0, 0);
        x.wish(0, Kind.SHUT, 0, 0, 0);
        x.wish(0, Kind.WISH, 0, 0, 0);
        check.done(x, "a hidden for a hidden", x.forge(0, 3, 0), 3);
        check.done(x, "a hidden for a shut", x.forge(0, 2, 0), 3);
        check.done(x, "a hidden for a wish", x.forge(0, 0, 0), 3);
        check.done(x, "a shut for a wish", x.forge(0, 0, 1), 2);
        check.refused(x, "a shut for a hidden", x.forge(0, 3, 1), 11);
        check.refused(x, "a wish for a shut", x.forge(0, 2, 2), 11);
        check.refused(x, "a hidden for a waiting", x.forge(0, 4, 0), 11);
        x.on(0, false);
        check.done(x, "one that is not on", x.forge(0, 2, 0), 3);
    }

    /** Promise 30, forge: "1 a row of n numbers is made: 13; answers n.": from none to 100. */
    private static void rowOfSoMany() {
        WishLine x = new WishLine();
        int[] sizes = {0, 1, 99, 100};
        for (int n : sizes) {
            check.done(x, "forge(1, " + n + ", 0)", x.forge(1, n, 0), n);
        }
    }

    /** Promise 30, forge: "1 a row of n numbers is made: 13; answers n.": 13, a size below 0. */
    private static void rowBelowNought() {
        WishLine x = new WishLine();
        int[] sizes = {-1, -2, -100};
        for (int n : sizes) {
            check.refused(x, "forge(1, " + n + ", 0)", x.forge(1, n, 0), 13);
        }
    }

    /**
     * Promise 30, forge: "2 SHEET k modulo 4 is taken for one of sort 1: 11; its number n: 10, 12; answers it.": k
     * from -100 to 100.
     */
    private static void shortByModulo() {
        WishLine x = new WishLine();
        for (int sheet = 0; sheet < 4; sheet++) {
            x.sheet(sheet, 1, 1);
            x.cell(sheet, 0, 500 + sheet);
        }
        for (int k = -100; k <= 100; k++) {
            check.done(x, "forge(2, 0, " + k + ")", x.forge(2, 0, k), 500 + (k + 100) % 4);
        }
    }

    /**
     * Promise 30, forge: "2 SHEET k modulo 4 is taken for one of sort 1: 11;": bytes and ints are none, whatever
     * the place.
     */
    private static void shortOfAnotherSort() {
        WishLine x = new WishLine();
        x.sheet(0, 0, 2);
        x.sheet(1, 2, 2);
        int[] places = {-1, 0, 1, 2, 100};
        for (int n : places) {
            check.refused(x, "forge(2, " + n + ", 0)", x.forge(2, n, 0), 11);
            check.refused(x, "forge(2, " + n + ", 1)", x.forge(2, n, 1), 11);
        }
    }

    /** Promise 30, forge: "its number n: 10, 12; answers it.": 10, it is missing, whatever the place. */
    private static void shortOfAMissingSheet() {
        WishLine x = new WishLine();
        x.sheet(1, 1, 2);
        int[] places = {-1, 0, 1, 2, 100};
        for (int n : places) {
            check.refused(x, "forge(2, " + n + ", 0)", x.forge(2, n, 0), 10);
            check.refused(x, "forge(2, " + n + ", -1)", x.forge(2, n, -1), 10);
        }
    }

    /** Promise 30, forge: "its number n: 10, 12; answers it.": 12, below 0 and behind the last. */
    private static void shortOutside() {
        WishLine x = new WishLine();
        x.sheet(0, 1, 40);
        x.cell(0, 39, -1000);
        check.done(x, "forge(2, 39, 0)", x.forge(2, 39, 0), -1000);
        check.done(x, "forge(2, 0, 0)", x.forge(2, 0, 0), 0);
        int[] places = {-100, -1, 40, 100};
        for (int n : places) {
            check.refused(x, "forge(2, " + n + ", 0)", x.forge(2, n, 0), 12);
        }
        x.cell(0, 0, -1);
        check.done(x, "a number that is -1", x.forge(2, 0, 0), -1);
    }

    /**
     * Promise 30, forge: "3 n numbers of SHEET k modulo 4, taken for one of sort 0 (11), from its number 1 on, are
     * copied to a row of 6 from place n on: 10, 12 (n below 0, or they do not stand there in both; also if it has no
     * numbers at all); answers their sum.": number 0 is not among them.
     */
    private static void bytesFromOneOn() {
        WishLine x = new WishLine();
        x.sheet(0, 0, 4);
        fill(x, 0, 0, 100, 1, 20, -128);
        int[] sums = {0, 1, 21, -107};
        for (int n = 0; n <= 3; n++) {
            check.done(x, "forge(3, " + n + ", 0)", x.forge(3, n, 0), sums[n]);
        }
        fill(x, 0, 0, 0, 127, 127, 127);
        check.done(x, "a sum above a byte", x.forge(3, 3, 0), 381);
        fill(x, 0, 0, 0, -128, -128, -128);
        check.done(x, "a sum below a byte", x.forge(3, 3, 0), -384);
        fill(x, 0, 0, 0, -1, 0, 0);
        check.done(x, "a sum that is -1", x.forge(3, 1, 0), -1);
    }

    /**
     * Promise 30, forge: "are copied to a row of 6 from place n on": three stand there from place 3 on, four do
     * not from place 4 on.
     */
    private static void bytesBehindTheRow() {
        WishLine x = new WishLine();
        x.sheet(0, 0, 40);
        check.done(x, "forge(3, 3, 0)", x.forge(3, 3, 0), 0);
        int[] many = {4, 5, 6, 7, 39, 40, 100};
        for (int n : many) {
            check.refused(x, "forge(3, " + n + ", 0)", x.forge(3, n, 0), 12);
        }
    }

    /** Promise 30, forge: "or they do not stand there in both;": a sheet of one, two, three, four numbers. */
    private static void bytesBehindTheSheet() {
        WishLine x = new WishLine();
        for (int size = 1; size <= 4; size++) {
            x.sheet(1, 0, size);
            for (int n = 0; n <= 3; n++) {
                String call = "forge(3, " + n + ", 1) of " + size;
                if (n < size) {
                    check.done(x, call, x.forge(3, n, 1), 0);
                } else {
                    check.refused(x, call, x.forge(3, n, 1), 12);
                }
            }
        }
    }

    /** Promise 30, forge: "12 (n below 0": -1 and -100. */
    private static void bytesBelowNought() {
        WishLine x = new WishLine();
        x.sheet(0, 0, 40);
        check.refused(x, "forge(3, -1, 0)", x.forge(3, -1, 0), 12);
        check.refused(x, "forge(3, -3, 0)", x.forge(3, -3, 0), 12);
        check.refused(x, "forge(3, -100, 0)", x.forge(3, -100, 0), 12);
    }

    /** Promise 30, forge: "also if it has no numbers at all)": even if none is to be copied. */
    private static void bytesOfAnEmptySheet() {
        WishLine x = new WishLine();
        x.sheet(0, 0, 0);
        for (int n = -1; n <= 3; n++) {
            check.refused(x, "forge(3, " + n + ", 0)", x.forge(3, n, 0), 12);
        }
        x.sheet(0, 0, 1);
        check.done(x, "of one number", x.forge(3, 0, 0), 0);
    }

    /** Promise 30, forge: "taken for one of sort 0 (11)": shorts and ints are none, whatever the place. */
    private static void bytesOfAnotherSort() {
        WishLine x = new WishLine();
        x.sheet(0, 1, 0);
        x.sheet(1, 2, 40);
        int[] many = {-1, 0, 1, 4, 100};
        for (int n : many) {
            check.refused(x, "forge(3, " + n + ", 0)", x.forge(3, n, 0), 11);
            check.refused(x, "forge(3, " + n + ", 1)", x.forge(3, n, 1), 11);
        }
    }

    /**
     * Promise 30, forge: "are copied to a row of 6 from place n on: 10, 12": 10, it is missing, whatever the
     * place.
     */
    private static void bytesOfAMissingSheet() {
        WishLine x = new WishLine();
        x.sheet(1, 0, 9);
        int[] many = {-1, 0, 1, 4, 100};
        for (int n : many) {
            check.refused(x, "forge(3, " + n + ", 0)", x.forge(3, n, 0), 10);
            check.refused(x, "forge(3, " + n + ", -1)", x.forge(3, n, -1), 10);
        }
    }

    /** Promise 30, forge: "3 n numbers of SHEET k modulo 4": k from -100 to 100. */
    private static void bytesByModulo() {
        WishLine x = new WishLine();
        for (int sheet = 0; sheet < 4; sheet++) {
            x.sheet(sheet, 0, 2);
            x.cell(sheet, 1, 50 + sheet);
        }
        for (int k = -100; k <= 100; k++) {
            check.done(x, "forge(3, 1, " + k + ")", x.forge(3, 1, k), 50 + (k + 100) % 4);
        }
    }

    /**
     * Promise 30, forge: "4 WISH k modulo 24 is put into a row that takes SHUT and HIDDEN ones: 14; answers its
     * KIND (0: there is no such)."
     */
    private static void rowOfShutOnes() {
        WishLine x = Check.withLines(1);
        for (int kind = 0; kind < 8; kind++) {
            x.wish(0, kind, 0, 0, 0);
        }
        for (int kind = 0; kind < 8; kind++) {
            String call = "forge(4, 0, " + kind + ")";
            if (kind == Kind.SHUT || kind == Kind.HIDDEN) {
                check.done(x, call, x.forge(4, 0, kind), kind);
            } else {
                check.refused(x, call, x.forge(4, 0, kind), 14);
            }
        }
    }

    /** Promise 30, forge: "4 WISH k modulo 24 is put into a row": k from -100 to 100. */
    private static void rowOfShutByModulo() {
        WishLine x = Check.withLines(1);
        for (int i = 0; i < 24; i++) {
            x.wish(0, i % 3 == 0 ? Kind.SHUT : Kind.HIDDEN, 0, 0, 0);
        }
        for (int k = -100; k <= 100; k++) {
            check.done(x, "forge(4, 0, " + k + ")", x.forge(4, 0, k), (k + 120) % 24 % 3 == 0 ? 2 : 3);
        }
    }

    /** Promise 30, forge: "(0: there is no such).": nothing fits into every row. */
    private static void rowOfShutWithNone() {
        WishLine x = Check.withLines(1);
        check.done(x, "no wish at all", x.forge(4, 0, 0), 0);
        x.wish(0, Kind.ONWARD, 0, 0, 0);
        check.refused(x, "an onward", x.forge(4, 0, 0), 14);
        check.done(x, "none behind it", x.forge(4, 0, 1), 0);
        check.done(x, "none by modulo", x.forge(4, 0, -1), 0);
    }

    /** Promise 30, forge: "5 1000 is divided by n: 15.": what is left over falls away, also below 0. */
    private static void division() {
        WishLine x = new WishLine();
        int[] by = {1, 2, 3, 7, 99, 100, -1, -2, -3, -7, -99, -100};
        int[] want = {1000, 500, 333, 142, 10, 10, -1000, -500, -333, -142, -10, -10};
        for (int i = 0; i < by.length; i++) {
            check.done(x, "forge(5, " + by[i] + ", 0)", x.forge(5, by[i], 0), want[i]);
        }
    }

    /** Promise 30, forge: "5 1000 is divided by n: 15.": 15, by 0. */
    private static void divisionByNought() {
        WishLine x = new WishLine();
        check.refused(x, "forge(5, 0, 0)", x.forge(5, 0, 0), 15);
        check.refused(x, "forge(5, 0, 100)", x.forge(5, 0, 100), 15);
    }

    /**
     * Promise 30, forge: "6 a failure is thrown: n modulo 2 is 0: none is there: 10; 1: one that is caught at
     * once; answers 1.": also below 0.
     */
    private static void failures() {
        WishLine x = new WishLine();
        for (int n = -100; n <= 100; n += 4) {
            check.refused(x, "forge(6, " + n + ", 0)", x.forge(6, n, 0), 10);
        }
        for (int n = -99; n <= 99; n += 2) {
            check.done(x, "forge(6, " + n + ", 0)", x.forge(6, n, 0), 1);
        }
    }

    /** Promise 31, status: "STATUS.": 0 of an object on which nothing was called. */
    private static void statusAtFirst() {
        WishLine x = new WishLine();
        check.due("status()", x.status(), 0);
        check.due("status() again", x.status(), 0);
    }

    /**
     * Section 4, "STATUS of the latest call that is no question (line, wish, on, rank, dial, take, down, tick, judge,
     * image, restore, sheet, cell, order, act, forge): 0 done; 1 a number is none such or outside what is told; 2 there
     * is no room; 3 it is not so (as told); 10 .. 15 the host refused it: 10 nothing where something is asked, 11 a
     * thing of another sort or KIND, 12 a place outside, 13 a size below 0, 14 a thing that does not fit, 15 divided by
     * 0.": each, and each call that is done brings back 0.
     */
    private static void statusOfTheLatest() {
        WishLine x = Check.withLines(2);
        x.wish(0, Kind.WISH, 0, 0, 0);
        x.sheet(0, 0, 5);
        for (int call = 1; call <= 16; call++) {
            check.refused(x, "forge(5, 0, 0)", x.forge(5, 0, 0), 15);
            callThatIsDone(x, call);
            check.due("status() behind call " + call, x.status(), 0);
        }
        check.refused(x, "1", x.take(9), 1);
        check.refused(x, "3", x.take(0), 3);
        check.refused(x, "10", x.cell(1, 0, 0), 10);
        check.refused(x, "11", x.forge(2, 0, 0), 11);
        check.refused(x, "12", x.cell(0, 5, 0), 12);
        check.refused(x, "13", x.forge(1, -1, 0), 13);
        check.refused(x, "14", x.forge(4, 0, 0), 14);
        check.refused(x, "15", x.forge(5, 0, 0), 15);
        for (int i = 3; i < 8; i++) {
            x.line();
        }
        check.refused(x, "2", x.line(), 2);
    }

    private static void callThatIsDone(WishLine x, int call) {
        switch (call) {
            case 1: x.line(); break;
            case 2: x.wish(0, 0, 0, 0, 0); break;
            case 3: x.on(0, false); break;
            case 4: x.rank(0, 1); break;
            case 5: x.dial(0, 1); break;
            case 6: x.take(1); break;
            case 7: x.down(0); break;
            case 8: x.tick(); break;
            case 9: x.judge(0, 0, 1, 3, 1); break;
            case 10: x.image(); break;
            case 11: x.restore(); break;
            case 12: x.sheet(0, 0, 5); break;
            case 13: x.cell(0, 0, 1); break;
            case 14: x.order(0, 0, 0); break;
            case 15: x.act(0, 0, 0); break;
            default: x.forge(1, 0, 0); break;
        }
    }

    /** Promise 31, status: "STATUS.": a question, also one without an answer, leaves it as it was. */
    private static void statusAndQuestions() {
        WishLine x = Check.withLines(2);
        x.wish(0, Kind.ONWARD, 0, 1, 0);
        check.refused(x, "forge(1, -1, 0)", x.forge(1, -1, 0), 13);
        int[] numbers = {0, 9, -1};
        for (int i : numbers) {
            x.wishTold(i, 0);
            x.lineTold(i, 0);
            x.call(i, 0);
            x.row(i, 0);
            x.piece(i, 0);
            x.acted(i, 0);
            x.tells(i, 0);
            x.backs(i, 0);
            x.actOf(i);
            x.alone(i, 0, 1, 3, 2);
            x.peace(i, 0, 0, 1, 3, 2);
            x.count(i);
            x.trace(i);
            check.due("status() behind questions of " + i, x.status(), 13);
        }
    }

    /** Section 4, "NONE is -1." */
    private static void noneIsBelowNought() {
        WishLine x = Check.withLines(1);
        check.due("NONE", WishLine.NONE, -1);
        check.due("lineTold(0, 0)", x.lineTold(0, 0), WishLine.NONE);
        check.due("lineTold(0, 1)", x.lineTold(0, 1), WishLine.NONE);
        check.due("lineTold(0, 5)", x.lineTold(0, 5), WishLine.NONE);
        x.dial(0, 0);
        check.due("call(0, 5)", x.call(0, 5), WishLine.NONE);
    }
}
