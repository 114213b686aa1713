/**
 * A telephone house: lines order wishes, calls go by them step by step, and
 * promises are judged by going through all that people on a few lines can do.
 */
public final class WishLine {
    public static final int NONE = -1;

    private static final int MAX_LINES = 8;
    private static final int MAX_WISHES = 24;
    private static final int MAX_CALLS = 60;
    private static final int MAX_BACKS = 8;
    private static final int MAX_TICK = 1000;
    private static final int MAX_RANK = 9;
    private static final int MAX_NUMBER = 31;
    private static final int MAX_RESTORES = 10;
    private static final int KEPT_ACTS = 10;
    private static final int KEPT_BODIES = 50;

    private static final int MAX_DEPTH = 3;
    private static final int MAX_SET = 3;
    // Three lines have six ways to dial, three to take, three to hang up, and there is the tick.
    private static final int MAX_DOABLE = 13;
    // Three acts make four calls at most: two dials, and behind them a tick with two calls back.
    private static final int JUDGED_CALLS = 8;

    private static final int KIND_WISH = 0;
    private static final int KIND_ONWARD = 1;
    private static final int KIND_SHUT = 2;
    private static final int KIND_HIDDEN = 3;
    private static final int KIND_WAITING = 4;
    private static final int KIND_BACK = 5;
    private static final int KIND_SHARED = 6;
    private static final int KIND_PAID = 7;
    private static final int KINDS = 8;

    private static final int ONWARD_ALWAYS = 0;
    private static final int ONWARD_BUSY = 1;
    // An onward that waits n ticks has the number 2 + n.
    private static final int ONWARD_TICKS = 2;
    private static final int ONWARD_LAST = 11;

    private static final int HOURS = 24;
    private static final int NOON = 12;
    private static final int SHUT_MORNING = 1;
    private static final int SHUT_EVENING = 2;
    private static final int SHUT_SENT_ON = 4;

    private static final int RINGS = 0;
    private static final int SPEAKS = 1;
    private static final int KNOCKS = 2;
    private static final int ENDED = 3;

    private static final int REASON_SHUT = 1;
    private static final int REASON_ROUND = 2;
    private static final int REASON_BUSY = 3;
    private static final int REASON_DOWN = 4;

    private static final int NEVER_SPEAK = 0;
    private static final int NEVER_PAYS = 1;
    private static final int NEVER_TOLD = 2;

    private static final int ACT_DIAL = 1000;
    private static final int ACT_TAKE = 2000;
    private static final int ACT_DOWN = 3000;
    private static final int ACT_TICK = 4000;

    private static final int HEAR = 0;
    private static final int TURN = 1;
    private static final int PAY = 2;
    private static final int END = 3;

    private static final int SHEETS = 4;
    private static final int SHEET_CELLS = 40;
    private static final int SORT_BYTES = 0;
    private static final int SORT_SHORTS = 1;
    private static final int SORT_INTS = 2;
    private static final int MAX_CELL = 1000;
    private static final int WISH_CELLS = 5;
    private static final int MAX_FORGED = 100;
    private static final int FORGED_ROW = 6;

    private static final int DONE = 0;
    private static final int NO_SUCH = 1;
    private static final int NO_ROOM = 2;
    private static final int NOT_SO = 3;
    private static final int HOST_NOTHING = 10;
    private static final int HOST_OTHER_SORT = 11;
    private static final int HOST_PLACE = 12;
    private static final int HOST_SIZE = 13;
    private static final int HOST_NO_FIT = 14;
    private static final int HOST_DIVIDED = 15;

    private final House house;
    private final House kept;
    private final Judge court;
    private final Bodies bodies;
    private final Sheets sheets;
    private final int[] caseActs;
    private int caseLength;
    private boolean hasImage;
    private int restores;
    private int latest;

    public WishLine() {
        house = new House(new WishBook(), MAX_CALLS);
        kept = new House(new WishBook(), MAX_CALLS);
        court = new Judge();
        bodies = new Bodies();
        sheets = new Sheets();
        caseActs = new int[MAX_DEPTH];
    }

    public int line() {
        if (house.lineCount >= MAX_LINES) {
            return refused(NO_ROOM);
        }
        house.lineCount++;
        return done(house.lineCount - 1);
    }

    public int wish(int owner, int kind, int rank, int target, int number) {
        if (!isWish(owner, kind, rank, target, number)) {
            return refused(NO_SUCH);
        }
        if (house.book.isFull()) {
            return refused(NO_ROOM);
        }
        return done(house.book.added(owner, kind, rank, target, number));
    }

    public int on(int wish, boolean is) {
        if (!house.book.holds(wish)) {
            return refused(NO_SUCH);
        }
        Wish told = house.book.wishes[wish];
        int changed = told.isOn == is ? 0 : 1;
        told.isOn = is;
        return done(changed);
    }

    public int rank(int wish, int n) {
        if (!house.book.holds(wish) || !isRank(n)) {
            return refused(NO_SUCH);
        }
        Wish told = house.book.wishes[wish];
        int before = told.rank;
        told.rank = n;
        return done(before);
    }

    public int dial(int line, int to) {
        if (!house.isLine(line) || !house.isLine(to)) {
            return refused(NO_SUCH);
        }
        if (!house.hasRoom()) {
            return refused(NO_ROOM);
        }
        if (!house.isFree(line)) {
            return refused(NOT_SO);
        }
        return done(house.connect(line, to));
    }

    public int take(int line) {
        if (!house.isLine(line)) {
            return refused(NO_SUCH);
        }
        if (!house.isRinging(line)) {
            return refused(NOT_SO);
        }
        return done(house.answer(line));
    }

    public int down(int line) {
        if (!house.isLine(line)) {
            return refused(NO_SUCH);
        }
        if (!house.canHangUp(line)) {
            return refused(NOT_SO);
        }
        return done(house.hangUp(line));
    }

    public int tick() {
        if (house.now >= MAX_TICK) {
            return refused(NO_ROOM);
        }
        house.pass();
        return done(house.now);
    }

    public int image() {
        kept.copyFrom(house);
        kept.book.copyFrom(house.book);
        hasImage = true;
        return done(1);
    }

    public int restore() {
        if (restores >= MAX_RESTORES) {
            return refused(NO_ROOM);
        }
        if (!hasImage) {
            return refused(NOT_SO);
        }
        house.copyFrom(kept);
        house.book.copyFrom(kept.book);
        restores++;
        return done(house.now);
    }

    public int wishTold(int wish, int what) {
        if (!house.book.holds(wish)) {
            return NONE;
        }
        Wish told = house.book.wishes[wish];
        switch (what) {
            case 0: return told.owner;
            case 1: return told.kind;
            case 2: return told.rank;
            case 3: return told.target;
            case 4: return told.number;
            case 5: return told.isOn ? 1 : 0;
            default: return NONE;
        }
    }

    public int lineTold(int line, int what) {
        if (!house.isLine(line)) {
            return NONE;
        }
        switch (what) {
            case 0: return house.inCall[line];
            case 1: return house.knocker[line];
            case 2: return house.costs[line];
            case 3: return house.isRinging(line) ? 1 : 0;
            case 4: return house.book.countOn(line);
            default: return what < 5 ? NONE : house.book.inOrder(line, what - 5);
        }
    }

    public int call(int call, int what) {
        if (!house.isCall(call)) {
            return NONE;
        }
        Call told = house.calls[call];
        switch (what) {
            case 0: return told.caller;
            case 1: return told.state;
            case 2: return told.reason;
            case 3: return told.length;
            case 4: return told.ring;
            case 5: return told.at;
            case 6: return told.rung;
            case 7: return told.acts;
            default: return NONE;
        }
    }

    public int row(int call, int i) {
        return house.isCall(call) ? house.calls[call].lineAt(i) : NONE;
    }

    public int piece(int call, int i) {
        return house.isCall(call) ? house.calls[call].payerAt(i) : NONE;
    }

    public int acted(int call, int i) {
        return house.isCall(call) ? house.calls[call].actAt(i) : NONE;
    }

    public int tells(int call, int line) {
        if (!house.isCall(call) || !house.isLine(line)) {
            return NONE;
        }
        return house.isTold(house.calls[call], line) ? 1 : 0;
    }

    public int backs(int i, int what) {
        if (i < 0 || i >= house.backCount) {
            return NONE;
        }
        switch (what) {
            case 0: return house.backFrom[i];
            case 1: return house.backTo[i];
            default: return NONE;
        }
    }

    public int judge(int kind, int a, int b, int set, int depth) {
        if (!isJudged(kind, a, b, set, depth)) {
            return refused(NO_SUCH);
        }
        court.open(house, kind, a, b, set);
        caseLength = court.find(depth);
        System.arraycopy(court.picked, 0, caseActs, 0, MAX_DEPTH);
        return done(caseLength);
    }

    public int actOf(int i) {
        return i < 0 || i >= caseLength || i >= MAX_DEPTH ? NONE : caseActs[i];
    }

    public int alone(int kind, int a, int b, int set, int depth) {
        if (!isJudged(kind, a, b, set, depth)) {
            return NONE;
        }
        court.open(house, kind, a, b, set);
        for (int wish = 0; wish < house.book.count; wish++) {
            if (house.book.wishes[wish].isOfThoseThatAct()) {
                court.book.leaveAlone(wish);
                if (court.find(depth) > 0) {
                    return wish;
                }
            }
        }
        return NONE;
    }

    public int peace(int wish, int kind, int a, int b, int set, int depth) {
        if (!house.book.holds(wish) || !isJudged(kind, a, b, set, depth)) {
            return NONE;
        }
        court.open(house, kind, a, b, set);
        int placeBefore = NONE;
        for (int rank = 0; rank <= MAX_RANK; rank++) {
            court.book.wishes[wish].rank = rank;
            int place = court.book.placeOf(wish);
            // A rank that leaves the order as it was cannot make another peace.
            if (place != placeBefore && court.find(depth) == 0) {
                return rank;
            }
            placeBefore = place;
        }
        return NONE;
    }

    public int count(int what) {
        switch (what) {
            case 0: return house.lineCount;
            case 1: return house.book.count;
            case 2: return house.callCount;
            case 3: return house.now;
            case 4: return house.backCount;
            case 5: return house.countOpen();
            case 6: return caseLength;
            case 7: return bodies.ran;
            default: return NONE;
        }
    }

    public int act(int wish, int act, int x) {
        if (!house.book.holds(wish) || act < HEAR || act > END) {
            return refused(NO_SUCH);
        }
        return done(bodies.run(house.book.wishes[wish], wish, act, x));
    }

    public int trace(int i) {
        return i < 0 || i >= bodies.ran || i >= KEPT_BODIES ? NONE : bodies.numbers[i];
    }

    public int sheet(int sheet, int sort, int n) {
        boolean sized = n >= 0 && n <= SHEET_CELLS && Sheets.isSort(sort);
        if (!Sheets.isSheet(sheet) || sort != NONE && !sized) {
            return refused(NO_SUCH);
        }
        sheets.lay(sheet, sort, n);
        return done(1);
    }

    public int cell(int sheet, int i, int v) {
        if (!Sheets.isSheet(sheet) || v < -MAX_CELL || v > MAX_CELL) {
            return refused(NO_SUCH);
        }
        if (sheets.isMissing(sheet)) {
            return refused(HOST_NOTHING);
        }
        if (!sheets.hasPlaces(sheet, i, 1)) {
            return refused(HOST_PLACE);
        }
        sheets.write(sheet, i, v);
        return done(1);
    }

    public int order(int sheet, int sort, int i) {
        if (!Sheets.isSheet(sheet) || !Sheets.isSort(sort)) {
            return refused(NO_SUCH);
        }
        if (house.book.isFull()) {
            return refused(NO_ROOM);
        }
        if (sheets.isMissing(sheet)) {
            return refused(HOST_NOTHING);
        }
        if (sheets.sorts[sheet] != sort) {
            return refused(HOST_OTHER_SORT);
        }
        if (!sheets.hasPlaces(sheet, i, WISH_CELLS)) {
            return refused(HOST_PLACE);
        }
        return orderedFrom(sheet, i);
    }

    public int forge(int what, int n, int k) {
        if (n < -MAX_FORGED || n > MAX_FORGED || k < -MAX_FORGED || k > MAX_FORGED) {
            return refused(NO_SUCH);
        }
        int wish = Math.floorMod(k, MAX_WISHES);
        int sheet = Math.floorMod(k, SHEETS);
        switch (what) {
            case 0: return takenForKind(wish, Math.floorMod(n, KINDS));
            case 1: return n < 0 ? refused(HOST_SIZE) : done(n);
            case 2: return readAsShort(sheet, n);
            case 3: return copiedAsBytes(sheet, n);
            case 4: return putAmongShut(wish);
            case 5: return n == 0 ? refused(HOST_DIVIDED) : done(1000 / n);
            case 6: return Math.floorMod(n, 2) == 0 ? refused(HOST_NOTHING) : done(1);
            default: return refused(NO_SUCH);
        }
    }

    public int status() {
        return latest;
    }

    private int refused(int status) {
        latest = status;
        return NONE;
    }

    private int done(int answer) {
        latest = DONE;
        return answer;
    }

    private static boolean isRank(int n) {
        return n >= 0 && n <= MAX_RANK;
    }

    private boolean isWish(int owner, int kind, int rank, int target, int number) {
        boolean inRange = house.isLine(owner) && house.isLine(target)
                && kind >= KIND_WISH && kind < KINDS && isRank(rank)
                && number >= 0 && number <= MAX_NUMBER;
        boolean noOnward = number == ONWARD_TICKS || number > ONWARD_LAST;
        return inRange && !(kind == KIND_ONWARD && noOnward);
    }

    private boolean isJudged(int kind, int a, int b, int set, int depth) {
        boolean isPromise = kind >= NEVER_SPEAK && kind <= NEVER_TOLD && house.isLine(a)
                && (kind == NEVER_PAYS || house.isLine(b));
        boolean isSet = set >= 0 && set < 1 << house.lineCount && Integer.bitCount(set) <= MAX_SET;
        return isPromise && isSet && depth >= 1 && depth <= MAX_DEPTH;
    }

    private int orderedFrom(int sheet, int i) {
        int owner = sheets.read(sheet, i);
        int kind = sheets.read(sheet, i + 1);
        int rank = sheets.read(sheet, i + 2);
        int target = sheets.read(sheet, i + 3);
        int number = sheets.read(sheet, i + 4);
        if (!isWish(owner, kind, rank, target, number)) {
            return refused(NOT_SO);
        }
        return done(house.book.added(owner, kind, rank, target, number));
    }

    private int takenForKind(int wish, int kind) {
        if (!house.book.holds(wish)) {
            return refused(HOST_NOTHING);
        }
        int own = house.book.wishes[wish].kind;
        boolean isUnder = kind == KIND_WISH || kind == KIND_SHUT && own == KIND_HIDDEN;
        return own == kind || isUnder ? done(own) : refused(HOST_OTHER_SORT);
    }

    private int readAsShort(int sheet, int n) {
        if (sheets.isMissing(sheet)) {
            return refused(HOST_NOTHING);
        }
        if (sheets.sorts[sheet] != SORT_SHORTS) {
            return refused(HOST_OTHER_SORT);
        }
        return sheets.hasPlaces(sheet, n, 1) ? done(sheets.read(sheet, n)) : refused(HOST_PLACE);
    }

    private int copiedAsBytes(int sheet, int n) {
        if (sheets.isMissing(sheet)) {
            return refused(HOST_NOTHING);
        }
        if (sheets.sorts[sheet] != SORT_BYTES) {
            return refused(HOST_OTHER_SORT);
        }
        if (n < 0 || n + n > FORGED_ROW || !sheets.hasPlaces(sheet, 1, n)) {
            return refused(HOST_PLACE);
        }
        int sum = 0;
        for (int i = 1; i <= n; i++) {
            sum += sheets.read(sheet, i);
        }
        return done(sum);
    }

    private int putAmongShut(int wish) {
        if (!house.book.holds(wish)) {
            return done(0);
        }
        int kind = house.book.wishes[wish].kind;
        return kind == KIND_SHUT || kind == KIND_HIDDEN ? done(kind) : refused(HOST_NO_FIT);
    }

    /** One wish of a line. */
    private static final class Wish {
        int owner;
        int kind;
        int rank;
        int target;
        int number;
        boolean isOn;

        void copyFrom(Wish other) {
            owner = other.owner;
            kind = other.kind;
            rank = other.rank;
            target = other.target;
            number = other.number;
            isOn = other.isOn;
        }

        boolean isOnFor(int line) {
            return isOn && owner == line;
        }

        boolean isOfThoseThatAct() {
            return kind == KIND_ONWARD || kind == KIND_SHUT || kind == KIND_WAITING;
        }

        boolean shutsOut(int caller, int from, int hour) {
            boolean isMeant = target == caller || (number & SHUT_SENT_ON) != 0 && target == from;
            int half = hour < NOON ? SHUT_MORNING : SHUT_EVENING;
            return kind == KIND_SHUT && isMeant && (number & half) != 0;
        }

        boolean sendsOn(boolean busy) {
            return kind == KIND_ONWARD && (number == ONWARD_ALWAYS || number == ONWARD_BUSY && busy);
        }
    }

    /** All wishes, by their numbers. */
    private static final class WishBook {
        final Wish[] wishes = new Wish[MAX_WISHES];
        int count;

        WishBook() {
            for (int i = 0; i < MAX_WISHES; i++) {
                wishes[i] = new Wish();
            }
        }

        void copyFrom(WishBook other) {
            count = other.count;
            for (int i = 0; i < count; i++) {
                wishes[i].copyFrom(other.wishes[i]);
            }
        }

        boolean holds(int wish) {
            return wish >= 0 && wish < count;
        }

        boolean isFull() {
            return count >= MAX_WISHES;
        }

        int added(int owner, int kind, int rank, int target, int number) {
            if (isFull()) {
                return NONE;
            }
            Wish wish = wishes[count];
            wish.owner = owner;
            wish.kind = kind;
            wish.rank = rank;
            wish.target = target;
            wish.number = number;
            wish.isOn = true;
            count++;
            return count - 1;
        }

        boolean has(int line, int kind) {
            for (int i = 0; i < count; i++) {
                Wish wish = wishes[i];
                if (wish.isOn && wish.owner == line && wish.kind == kind) {
                    return true;
                }
            }
            return false;
        }

        boolean hides(int caller, int line) {
            for (int i = 0; i < count; i++) {
                Wish wish = wishes[i];
                if (wish.kind == KIND_HIDDEN && wish.isOnFor(caller) && wish.target != line) {
                    return true;
                }
            }
            return false;
        }

        int countOn(int line) {
            int found = 0;
            for (int i = 0; i < count; i++) {
                if (wishes[i].isOnFor(line)) {
                    found++;
                }
            }
            return found;
        }

        /** How many wishes of its owner that are on stand before it. */
        int placeOf(int wish) {
            Wish own = wishes[wish];
            int place = 0;
            for (int i = 0; i < count; i++) {
                Wish other = wishes[i];
                boolean isBefore = other.rank < own.rank || other.rank == own.rank && i < wish;
                if (isBefore && other.isOnFor(own.owner)) {
                    place++;
                }
            }
            return place;
        }

        int inOrder(int line, int place) {
            for (int i = 0; i < count; i++) {
                if (wishes[i].isOnFor(line) && placeOf(i) == place) {
                    return i;
                }
            }
            return NONE;
        }

        /** The first onward in order that acts when a call has rung so long. */
        int onwardAfter(int line, int rung) {
            int first = NONE;
            for (int i = 0; i < count; i++) {
                Wish wish = wishes[i];
                boolean acts = wish.kind == KIND_ONWARD && wish.number == ONWARD_TICKS + rung
                        && wish.isOnFor(line);
                if (acts && (first == NONE || wish.rank < wishes[first].rank)) {
                    first = i;
                }
            }
            return first;
        }

        /** Of the wishes that can act on a call, this one alone is on. */
        void leaveAlone(int wish) {
            for (int i = 0; i < count; i++) {
                if (wishes[i].isOfThoseThatAct()) {
                    wishes[i].isOn = i == wish;
                }
            }
        }
    }

    /** One call; its rows are kept as bits, four for a line and five for a wish. */
    private static final class Call {
        int caller;
        int state;
        int reason;
        int length;
        int ring;
        int at;
        int rung;
        int acts;
        int row;
        int payers;
        long acted;

        void open(int line) {
            caller = line;
            state = RINGS;
            reason = 0;
            length = 0;
            ring = 0;
            at = NONE;
            rung = 0;
            acts = 0;
            row = 0;
            payers = 0;
            acted = 0;
        }

        void copyFrom(Call other) {
            caller = other.caller;
            state = other.state;
            reason = other.reason;
            length = other.length;
            ring = other.ring;
            at = other.at;
            rung = other.rung;
            acts = other.acts;
            row = other.row;
            payers = other.payers;
            acted = other.acted;
        }

        int lineAt(int i) {
            return i < 0 || i >= length ? NONE : row >>> 4 * i & 15;
        }

        int payerAt(int i) {
            return i < 0 || i >= length ? NONE : payers >>> 4 * i & 15;
        }

        int actAt(int i) {
            return i < 0 || i >= acts || i >= KEPT_ACTS ? NONE : (int) (acted >>> 5 * i & 31);
        }

        boolean comesRoundTo(int line) {
            if (length > 0 && line == caller) {
                return true;
            }
            for (int i = 0; i < length; i++) {
                if (lineAt(i) == line) {
                    return true;
                }
            }
            return false;
        }

        void enter(int line, int payer) {
            row |= line << 4 * length;
            payers |= payer << 4 * length;
            length++;
        }

        void note(int wish) {
            if (acts < KEPT_ACTS) {
                acted |= (long) wish << 5 * acts;
            }
            acts++;
        }
    }

    /** The lines with their calls, wishes back and costs at one tick. */
    private static final class House {
        final WishBook book;
        final Call[] calls;
        // Kept beside the calls so that no question has to go through all of them.
        final int[] inCall = new int[MAX_LINES];
        final int[] knocker = new int[MAX_LINES];
        final int[] costs = new int[MAX_LINES];
        final int[] backFrom = new int[MAX_BACKS];
        final int[] backTo = new int[MAX_BACKS];
        int lineCount;
        int callCount;
        int backCount;
        int now;

        House(WishBook book, int room) {
            this.book = book;
            calls = new Call[room];
            for (int i = 0; i < room; i++) {
                calls[i] = new Call();
            }
            for (int i = 0; i < MAX_LINES; i++) {
                inCall[i] = NONE;
                knocker[i] = NONE;
            }
        }

        /** All but the wishes. */
        void copyFrom(House other) {
            lineCount = other.lineCount;
            callCount = Math.min(other.callCount, calls.length);
            backCount = other.backCount;
            now = other.now;
            for (int i = 0; i < MAX_LINES; i++) {
                inCall[i] = other.inCall[i];
                knocker[i] = other.knocker[i];
                costs[i] = other.costs[i];
            }
            for (int i = 0; i < callCount; i++) {
                calls[i].copyFrom(other.calls[i]);
            }
            for (int i = 0; i < backCount; i++) {
                backFrom[i] = other.backFrom[i];
                backTo[i] = other.backTo[i];
            }
        }

        boolean isLine(int line) {
            return line >= 0 && line < lineCount;
        }

        boolean isCall(int call) {
            return call >= 0 && call < callCount;
        }

        boolean hasRoom() {
            return callCount < calls.length;
        }

        boolean isFree(int line) {
            return inCall[line] == NONE;
        }

        boolean isRinging(int line) {
            return !isFree(line) && (calls[inCall[line]].ring >> line & 1) != 0;
        }

        boolean canHangUp(int line) {
            return !isFree(line) && !isRinging(line);
        }

        boolean isTold(Call call, int line) {
            boolean isHeard = (call.ring >> line & 1) != 0 || call.state == KNOCKS && call.at == line;
            return isHeard && !book.hides(call.caller, line);
        }

        int countOpen() {
            int found = 0;
            for (int i = 0; i < callCount; i++) {
                if (calls[i].state != ENDED) {
                    found++;
                }
            }
            return found;
        }

        int connect(int line, int to) {
            int number = opened(line);
            go(number, line, to);
            settle();
            return number;
        }

        int answer(int line) {
            int taken = inCall[line];
            Call call = calls[taken];
            silence(call);
            call.state = SPEAKS;
            call.at = line;
            inCall[line] = taken;
            settle();
            return taken;
        }

        int hangUp(int line) {
            int left = inCall[line];
            silence(calls[left]);
            close(calls[left], REASON_DOWN);
            settle();
            return left;
        }

        void pass() {
            now++;
            charge();
            for (int i = 0; i < callCount; i++) {
                Call call = calls[i];
                if (call.state == RINGS) {
                    call.rung++;
                    int last = call.lineAt(call.length - 1);
                    int wish = book.onwardAfter(last, call.rung);
                    if (wish != NONE) {
                        silence(call);
                        call.note(wish);
                        go(i, last, book.wishes[wish].target);
                    }
                    settle();
                }
            }
            // Wishes back that come while these are gone through stand behind them, for a later tick.
            int due = backCount;
            int place = 0;
            for (int i = 0; i < due; i++) {
                int from = backFrom[place];
                int to = backTo[place];
                if (isFree(from) && isFree(to) && hasRoom()) {
                    dropBack(place);
                    go(opened(from), from, to);
                    settle();
                } else {
                    place++;
                }
            }
        }

        /** What people can do: whether the house lets them do it now. */
        boolean allows(int act) {
            int x = act % 1000 / 10;
            switch (act / 1000) {
                case 1: return hasRoom() && isFree(x);
                case 2: return isRinging(x);
                case 3: return canHangUp(x);
                default: return now < MAX_TICK;
            }
        }

        void perform(int act) {
            int x = act % 1000 / 10;
            switch (act / 1000) {
                case 1:
                    connect(x, act % 10);
                    break;
                case 2:
                    answer(x);
                    break;
                case 3:
                    hangUp(x);
                    break;
                default:
                    pass();
                    break;
            }
        }

        boolean breaks(int kind, int a, int b) {
            if (kind == NEVER_PAYS) {
                return costs[a] > 0;
            }
            if (isFree(a)) {
                return false;
            }
            Call call = calls[inCall[a]];
            if (kind == NEVER_SPEAK) {
                return a != b && call.state == SPEAKS && inCall[b] == inCall[a];
            }
            return call.caller == a && isTold(call, b);
        }

        int opened(int line) {
            if (!hasRoom()) {
                return NONE;
            }
            calls[callCount].open(line);
            inCall[line] = callCount;
            callCount++;
            return callCount - 1;
        }

        /** The call goes to a line, and on from there as the wishes tell. */
        void go(int number, int from, int to) {
            if (!isCall(number)) {
                return;
            }
            Call call = calls[number];
            int s = from;
            int t = to;
            // A row has each line once, so the step behind eight lines comes round.
            for (int step = 0; step <= MAX_LINES; step++) {
                if (call.comesRoundTo(t)) {
                    close(call, REASON_ROUND);
                    return;
                }
                call.enter(t, call.length == 0 && book.has(t, KIND_PAID) ? t : s);
                int wish = firstThatActs(call.caller, s, t);
                if (wish == NONE) {
                    arrive(number, t);
                    return;
                }
                call.note(wish);
                Wish acting = book.wishes[wish];
                if (acting.kind == KIND_SHUT) {
                    close(call, REASON_SHUT);
                    return;
                }
                if (acting.kind == KIND_WAITING) {
                    call.state = KNOCKS;
                    call.at = t;
                    knocker[t] = number;
                    return;
                }
                s = t;
                t = acting.target;
            }
        }

        int firstThatActs(int caller, int s, int t) {
            // The caller is in its own call, so it is busy here too.
            boolean busy = !isFree(t);
            boolean canKnock = busy && t != caller && knocker[t] == NONE;
            int hour = now % HOURS;
            int first = NONE;
            for (int i = 0; i < book.count; i++) {
                Wish wish = book.wishes[i];
                boolean acts = wish.isOnFor(t) && (wish.shutsOut(caller, s, hour)
                        || wish.sendsOn(busy) || wish.kind == KIND_WAITING && canKnock);
                if (acts && (first == NONE || wish.rank < book.wishes[first].rank)) {
                    first = i;
                }
            }
            return first;
        }

        /** No wish acts at the line: the call rings there, or ends if the line is busy. */
        void arrive(int number, int t) {
            Call call = calls[number];
            if (!isFree(t)) {
                close(call, REASON_BUSY);
                if (book.has(call.caller, KIND_BACK)) {
                    addBack(call.caller, t);
                }
                return;
            }
            int lines = 1 << t;
            for (int i = 0; i < book.count; i++) {
                Wish wish = book.wishes[i];
                if (wish.kind == KIND_SHARED && wish.isOnFor(t) && isFree(wish.target)) {
                    lines |= 1 << wish.target;
                }
            }
            ringAt(number, lines);
        }

        void ringAt(int number, int lines) {
            Call call = calls[number];
            call.state = RINGS;
            call.ring = lines;
            call.at = NONE;
            call.rung = 0;
            for (int i = 0; i < MAX_LINES; i++) {
                if ((lines >> i & 1) != 0) {
                    inCall[i] = number;
                }
            }
        }

        /** No line rings in the call any more. */
        void silence(Call call) {
            for (int i = 0; i < MAX_LINES; i++) {
                if ((call.ring >> i & 1) != 0) {
                    inCall[i] = NONE;
                }
            }
            call.ring = 0;
        }

        /** Ends a call in which no line rings. */
        void close(Call call, int reason) {
            inCall[call.caller] = NONE;
            if (call.state == SPEAKS) {
                inCall[call.at] = NONE;
            }
            if (call.state == KNOCKS) {
                knocker[call.at] = NONE;
            }
            call.at = NONE;
            call.state = ENDED;
            call.reason = reason;
        }

        /** Calls that knock at lines that have become free ring there. */
        void settle() {
            for (int i = 0; i < lineCount; i++) {
                if (isFree(i) && knocker[i] != NONE) {
                    int number = knocker[i];
                    knocker[i] = NONE;
                    ringAt(number, 1 << i);
                }
            }
        }

        void charge() {
            for (int i = 0; i < callCount; i++) {
                Call call = calls[i];
                if (call.state == SPEAKS) {
                    for (int j = 0; j < call.length; j++) {
                        costs[call.payerAt(j)]++;
                    }
                }
            }
        }

        void addBack(int from, int to) {
            for (int i = 0; i < backCount; i++) {
                if (backFrom[i] == from && backTo[i] == to) {
                    return;
                }
            }
            if (backCount < MAX_BACKS) {
                backFrom[backCount] = from;
                backTo[backCount] = to;
                backCount++;
            }
        }

        void dropBack(int place) {
            for (int i = place + 1; i < backCount; i++) {
                backFrom[i - 1] = backFrom[i];
                backTo[i - 1] = backTo[i];
            }
            backCount--;
        }
    }

    /** Goes through all that people on a set of lines can do. */
    private static final class Judge {
        final WishBook book = new WishBook();
        // The house behind no act, behind the first one, and so on.
        final House[] behind = new House[MAX_DEPTH + 1];
        final int[] doable = new int[MAX_DOABLE];
        final int[] picked = new int[MAX_DEPTH];
        int doableCount;
        int kind;
        int a;
        int b;

        Judge() {
            for (int i = 0; i <= MAX_DEPTH; i++) {
                behind[i] = new House(book, JUDGED_CALLS);
            }
        }

        void open(House house, int promise, int first, int second, int set) {
            book.copyFrom(house.book);
            // Nothing is ever done in the first house, so it needs no more than the lines.
            behind[0].lineCount = house.lineCount;
            kind = promise;
            a = first;
            b = second;
            doableCount = 0;
            for (int x = 0; x < MAX_LINES; x++) {
                for (int y = 0; y < MAX_LINES; y++) {
                    if (x != y && (set >> x & 1) != 0 && (set >> y & 1) != 0) {
                        list(ACT_DIAL + 10 * x + y);
                    }
                }
            }
            listOfEach(ACT_TAKE, set);
            listOfEach(ACT_DOWN, set);
            list(ACT_TICK);
        }

        void listOfEach(int act, int set) {
            for (int x = 0; x < MAX_LINES; x++) {
                if ((set >> x & 1) != 0) {
                    list(act + 10 * x);
                }
            }
        }

        void list(int act) {
            if (doableCount < MAX_DOABLE) {
                doable[doableCount] = act;
                doableCount++;
            }
        }

        /** How many acts the case has, which stands in the acts that were picked; 0: none. */
        int find(int depth) {
            for (int length = 1; length <= depth; length++) {
                if (search(0, length)) {
                    return length;
                }
            }
            return 0;
        }

        /** The acts are listed from the least on, so the first case found is the least of its length. */
        private boolean search(int level, int length) {
            if (level >= length || level >= MAX_DEPTH) {
                return false;
            }
            House before = behind[level];
            House after = behind[level + 1];
            for (int i = 0; i < doableCount; i++) {
                int act = doable[i];
                if (before.allows(act)) {
                    picked[level] = act;
                    after.copyFrom(before);
                    after.perform(act);
                    boolean found = level + 1 == length ? after.breaks(kind, a, b) : search(level + 1, length);
                    if (found) {
                        return true;
                    }
                }
            }
            return false;
        }
    }

    /** Runs the bodies of a wish's acts; kinds go up to wish in three steps, so no run is deep. */
    private static final class Bodies {
        final int[] numbers = new int[KEPT_BODIES];
        int ran;
        int own;
        int n;
        int r;
        int t;

        int run(Wish wish, int number, int act, int x) {
            ran = 0;
            own = wish.kind;
            n = number;
            r = wish.rank;
            t = wish.target;
            switch (act) {
                case HEAR: return hear(own, x);
                case TURN: return turn(own, x);
                case PAY: return pay(own, x);
                default: return end(own, x);
            }
        }

        private void begin(int body) {
            if (ran < KEPT_BODIES) {
                numbers[ran] = body;
                ran++;
            }
        }

        private int hear(int kind, int x) {
            switch (kind) {
                case KIND_SHUT:
                    begin(30);
                    return hear(KIND_WISH, x) * 3;
                case KIND_HIDDEN:
                    begin(40);
                    return hear(KIND_SHUT, x) - pay(own, x);
                default:
                    begin(10);
                    return x + n;
            }
        }

        private int turn(int kind, int x) {
            switch (kind) {
                case KIND_ONWARD:
                    begin(20);
                    return turn(KIND_WISH, x) + t;
                case KIND_HIDDEN:
                    begin(41);
                    return turn(KIND_SHUT, x - t);
                case KIND_SHARED:
                    begin(70);
                    return turn(KIND_WISH, x) ^ hear(own, t);
                default:
                    begin(11);
                    return hear(own, x) * 2;
            }
        }

        private int pay(int kind, int x) {
            switch (kind) {
                case KIND_BACK:
                    begin(60);
                    return pay(KIND_WISH, x) + t;
                case KIND_PAID:
                    begin(80);
                    return pay(KIND_WISH, x) * 2;
                default:
                    begin(12);
                    return x - r;
            }
        }

        private int end(int kind, int x) {
            switch (kind) {
                case KIND_SHUT:
                case KIND_HIDDEN:
                    begin(31);
                    return end(KIND_WISH, x + 1);
                case KIND_WAITING:
                    begin(50);
                    return pay(own, x) - end(KIND_WISH, x);
                default:
                    begin(13);
                    return turn(own, x) ^ pay(own, x);
            }
        }
    }

    /** Rows of numbers, each of a sort or missing. */
    private static final class Sheets {
        final int[] sorts = new int[SHEETS];
        final int[] sizes = new int[SHEETS];
        final int[] cells = new int[SHEETS * SHEET_CELLS];

        Sheets() {
            for (int i = 0; i < SHEETS; i++) {
                sorts[i] = NONE;
            }
        }

        static boolean isSheet(int sheet) {
            return sheet >= 0 && sheet < SHEETS;
        }

        static boolean isSort(int sort) {
            return sort >= SORT_BYTES && sort <= SORT_INTS;
        }

        boolean isMissing(int sheet) {
            return sorts[sheet] == NONE;
        }

        void lay(int sheet, int sort, int size) {
            sorts[sheet] = sort;
            sizes[sheet] = sort == NONE ? 0 : size;
            for (int i = 0; i < SHEET_CELLS; i++) {
                cells[sheet * SHEET_CELLS + i] = 0;
            }
        }

        /** Whether so many places stand there from a first one on. */
        boolean hasPlaces(int sheet, int first, int many) {
            return first >= 0 && many >= 0 && first <= sizes[sheet] - many;
        }

        int read(int sheet, int i) {
            return cells[sheet * SHEET_CELLS + i];
        }

        void write(int sheet, int i, int v) {
            cells[sheet * SHEET_CELLS + i] = sorts[sheet] == SORT_BYTES ? (byte) v : v;
        }
    }
}
