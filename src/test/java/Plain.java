import java.util.ArrayList;
import java.util.List;

/**
 * The document once more, as plainly as it can be written: everything is looked up in lists,
 * nothing is kept twice, and the judge plays every row of acts from the start.
 */
final class Plain {
    static final class W {
        int owner;
        int kind;
        int rank;
        int target;
        int number;
        boolean on = true;
    }

    static final class C {
        int caller;
        String state = "going";
        int reason;
        List<Integer> row = new ArrayList<>();
        List<Integer> payers = new ArrayList<>();
        List<Integer> ringing = new ArrayList<>();
        List<Integer> acts = new ArrayList<>();
        int taker = -1;
        int knockedAt = -1;
        int rung;
    }

    /** What an image keeps. */
    static final class World {
        int lines;
        int tick;
        List<W> wishes = new ArrayList<>();
        List<C> calls = new ArrayList<>();
        List<int[]> backs = new ArrayList<>();
        List<Integer> payments = new ArrayList<>();

        World copy() {
            World w = new World();
            w.lines = lines;
            w.tick = tick;
            for (W old : wishes) {
                W n = new W();
                n.owner = old.owner;
                n.kind = old.kind;
                n.rank = old.rank;
                n.target = old.target;
                n.number = old.number;
                n.on = old.on;
                w.wishes.add(n);
            }
            for (C old : calls) {
                C n = new C();
                n.caller = old.caller;
                n.state = old.state;
                n.reason = old.reason;
                n.row.addAll(old.row);
                n.payers.addAll(old.payers);
                n.ringing.addAll(old.ringing);
                n.acts.addAll(old.acts);
                n.taker = old.taker;
                n.knockedAt = old.knockedAt;
                n.rung = old.rung;
                w.calls.add(n);
            }
            for (int[] b : backs) {
                w.backs.add(b.clone());
            }
            w.payments.addAll(payments);
            return w;
        }

        boolean line(int n) {
            return 0 <= n && n < lines;
        }

        boolean in(C c, int line) {
            return !c.state.equals("ended")
                    && (c.caller == line || c.ringing.contains(line) || c.state.equals("speaks") && c.taker == line);
        }

        int callOf(int line) {
            for (int i = 0; i < calls.size(); i++) {
                if (in(calls.get(i), line)) {
                    return i;
                }
            }
            return -1;
        }

        boolean free(int line) {
            return callOf(line) == -1;
        }

        int knocksAt(int line) {
            for (int i = 0; i < calls.size(); i++) {
                if (calls.get(i).state.equals("knocks") && calls.get(i).knockedAt == line) {
                    return i;
                }
            }
            return -1;
        }

        List<Integer> order(int line) {
            List<Integer> all = new ArrayList<>();
            for (int i = 0; i < wishes.size(); i++) {
                if (wishes.get(i).on && wishes.get(i).owner == line) {
                    all.add(i);
                }
            }
            all.sort((i, j) -> wishes.get(i).rank != wishes.get(j).rank
                    ? Integer.compare(wishes.get(i).rank, wishes.get(j).rank) : Integer.compare(i, j));
            return all;
        }

        void end(C c, int reason) {
            c.state = "ended";
            c.reason = reason;
            c.ringing.clear();
            c.taker = -1;
            c.knockedAt = -1;
        }

        boolean shuts(W w, C c, int s) {
            boolean morning = tick % 24 <= 11;
            boolean hour = morning ? w.number % 2 == 1 : w.number / 2 % 2 == 1;
            boolean sentOn = w.number / 4 % 2 == 1;
            return w.kind == 2 && hour && (w.target == c.caller || sentOn && w.target == s);
        }

        void goes(C c, int s, int t, boolean firstStep) {
            if (c.row.contains(t) || t == c.caller && !firstStep) {
                end(c, 2);
                return;
            }
            c.row.add(t);
            int payer = s;
            if (c.payers.isEmpty()) {
                for (int i : order(t)) {
                    if (wishes.get(i).kind == 7) {
                        payer = t;
                    }
                }
            }
            c.payers.add(payer);
            for (int i : order(t)) {
                W w = wishes.get(i);
                if (shuts(w, c, s)) {
                    c.acts.add(i);
                    end(c, 1);
                    return;
                }
                if (w.kind == 1 && (w.number == 0 || w.number == 1 && (!free(t) || t == c.caller))) {
                    c.acts.add(i);
                    goes(c, t, w.target, false);
                    return;
                }
                if (w.kind == 4 && !free(t) && t != c.caller && knocksAt(t) == -1) {
                    c.acts.add(i);
                    c.state = "knocks";
                    c.knockedAt = t;
                    return;
                }
            }
            if (!free(t) || t == c.caller) {
                end(c, 3);
                for (int i : order(c.caller)) {
                    if (wishes.get(i).kind == 5) {
                        back(c.caller, t);
                    }
                }
                return;
            }
            List<Integer> at = new ArrayList<>(List.of(t));
            for (int i : order(t)) {
                int other = wishes.get(i).target;
                if (wishes.get(i).kind == 6 && free(other) && other != c.caller && !at.contains(other)) {
                    at.add(other);
                }
            }
            c.state = "rings";
            c.ringing.addAll(at);
            c.rung = 0;
        }

        void back(int from, int to) {
            for (int[] b : backs) {
                if (b[0] == from && b[1] == to) {
                    return;
                }
            }
            if (backs.size() < 8) {
                backs.add(new int[] {from, to});
            }
        }

        void knockersRing() {
            for (int line = 0; line < lines; line++) {
                int k = knocksAt(line);
                if (k != -1 && free(line)) {
                    C c = calls.get(k);
                    c.state = "rings";
                    c.knockedAt = -1;
                    c.ringing.add(line);
                    c.rung = 0;
                }
            }
        }

        int dial(int line, int to) {
            C c = new C();
            c.caller = line;
            calls.add(c);
            goes(c, line, to, true);
            knockersRing();
            return calls.size() - 1;
        }

        /** 0, or the status with which it is refused. */
        int dialRefused(int line, int to) {
            return !line(line) || !line(to) ? 1 : calls.size() >= 60 ? 2 : !free(line) ? 3 : 0;
        }

        int takeRefused(int line) {
            if (!line(line)) {
                return 1;
            }
            int c = callOf(line);
            return c != -1 && calls.get(c).ringing.contains(line) ? 0 : 3;
        }

        int take(int line) {
            int n = callOf(line);
            C c = calls.get(n);
            c.ringing.clear();
            c.state = "speaks";
            c.taker = line;
            knockersRing();
            return n;
        }

        int downRefused(int line) {
            if (!line(line)) {
                return 1;
            }
            int n = callOf(line);
            return n != -1 && (calls.get(n).caller == line || calls.get(n).state.equals("speaks")) ? 0 : 3;
        }

        int down(int line) {
            int n = callOf(line);
            end(calls.get(n), 4);
            knockersRing();
            return n;
        }

        void tick() {
            tick++;
            for (C c : calls) {
                if (c.state.equals("speaks")) {
                    payments.addAll(c.payers);
                }
            }
            for (C c : calls) {
                if (!c.state.equals("rings")) {
                    continue;
                }
                c.rung++;
                int last = c.row.get(c.row.size() - 1);
                for (int i : order(last)) {
                    W w = wishes.get(i);
                    if (w.kind == 1 && w.number == 2 + c.rung) {
                        c.acts.add(i);
                        c.ringing.clear();
                        goes(c, last, w.target, false);
                        break;
                    }
                }
                knockersRing();
            }
            for (int[] b : new ArrayList<>(backs)) {
                if (free(b[0]) && free(b[1]) && calls.size() < 60) {
                    backs.remove(b);
                    dial(b[0], b[1]);
                }
            }
        }

        boolean tells(C c, int line) {
            if (!c.ringing.contains(line) && !(c.state.equals("knocks") && c.knockedAt == line)) {
                return false;
            }
            for (int i : order(c.caller)) {
                if (wishes.get(i).kind == 3 && wishes.get(i).target != line) {
                    return false;
                }
            }
            return true;
        }

        int costs(int line) {
            int sum = 0;
            for (int p : payments) {
                sum += p == line ? 1 : 0;
            }
            return sum;
        }

        boolean broken(int kind, int a, int b) {
            if (kind == 1) {
                return payments.contains(a);
            }
            for (C c : calls) {
                boolean speak = c.state.equals("speaks")
                        && (c.caller == a && c.taker == b || c.caller == b && c.taker == a);
                if (kind == 0 && speak || kind == 2 && c.caller == a && tells(c, b)) {
                    return true;
                }
            }
            return false;
        }

        World atFirst() {
            World w = copy();
            w.tick = 0;
            w.calls.clear();
            w.backs.clear();
            w.payments.clear();
            return w;
        }

        /** Whether the act is not refused. */
        boolean does(int act) {
            int x = act / 10 % 100;
            int y = act % 10;
            if (act >= 4000) {
                tick();
                return true;
            }
            if (act >= 3000) {
                return downRefused(x) == 0 && down(x) >= 0;
            }
            if (act >= 2000) {
                return takeRefused(x) == 0 && take(x) >= 0;
            }
            return dialRefused(x, y) == 0 && dial(x, y) >= 0;
        }

        boolean judged(int kind, int a, int b, int set, int depth) {
            boolean lines = line(a) && (kind == 1 || line(b));
            boolean fine = kind >= 0 && kind <= 2 && lines && depth >= 1 && depth <= 3 && set >= 0;
            int bits = 0;
            for (int i = 0; i < 31; i++) {
                if ((set >> i & 1) == 1) {
                    bits++;
                    fine &= line(i);
                }
            }
            return fine && bits <= 3;
        }

        /** The case, of all rows of acts; none: an empty list. */
        List<Integer> judge(int kind, int a, int b, int set, int depth) {
            List<Integer> acts = new ArrayList<>();
            for (int act = 1000; act <= 4000; act++) {
                int x = act / 10 % 100;
                int y = act % 10;
                boolean xIn = x < 8 && (set >> x & 1) == 1;
                boolean yIn = y < 8 && (set >> y & 1) == 1;
                boolean dials = act < 2000 && xIn && yIn && x != y;
                boolean others = act >= 2000 && act < 4000 && xIn && y == 0;
                if (dials || others || act == 4000) {
                    acts.add(act);
                }
            }
            List<List<Integer>> rows = new ArrayList<>();
            rows.add(new ArrayList<>());
            for (int length = 1; length <= depth; length++) {
                List<List<Integer>> longer = new ArrayList<>();
                for (List<Integer> row : rows) {
                    for (int act : acts) {
                        List<Integer> next = new ArrayList<>(row);
                        next.add(act);
                        World w = atFirst();
                        boolean done = true;
                        for (int each : next) {
                            done = done && w.does(each);
                        }
                        if (done && w.broken(kind, a, b)) {
                            return next;
                        }
                        if (done) {
                            longer.add(next);
                        }
                    }
                }
                rows = longer;
            }
            return new ArrayList<>();
        }
    }

    World now = new World();
    World kept;
    int restored;
    int status;
    List<Integer> theCase = new ArrayList<>();
    List<Integer> trace = new ArrayList<>();
    Object[] sheets = new Object[4];

    private int refused(int why) {
        status = why;
        return -1;
    }

    private int done(int answer) {
        status = 0;
        return answer;
    }

    private static boolean within(int n, int from, int to) {
        return from <= n && n <= to;
    }

    int line() {
        return now.lines == 8 ? refused(2) : done(now.lines++);
    }

    private boolean fits(int owner, int kind, int rank, int target, int number) {
        return now.line(owner) && within(kind, 0, 7) && within(rank, 0, 9) && now.line(target)
                && within(number, 0, 31) && (kind != 1 || number <= 11 && number != 2);
    }

    int wish(int owner, int kind, int rank, int target, int number) {
        if (!fits(owner, kind, rank, target, number)) {
            return refused(1);
        }
        if (now.wishes.size() == 24) {
            return refused(2);
        }
        W w = new W();
        w.owner = owner;
        w.kind = kind;
        w.rank = rank;
        w.target = target;
        w.number = number;
        now.wishes.add(w);
        return done(now.wishes.size() - 1);
    }

    private boolean isWish(int wish) {
        return within(wish, 0, now.wishes.size() - 1);
    }

    int on(int wish, boolean is) {
        if (!isWish(wish)) {
            return refused(1);
        }
        boolean was = now.wishes.get(wish).on;
        now.wishes.get(wish).on = is;
        return done(was == is ? 0 : 1);
    }

    int rank(int wish, int n) {
        if (!isWish(wish) || !within(n, 0, 9)) {
            return refused(1);
        }
        int was = now.wishes.get(wish).rank;
        now.wishes.get(wish).rank = n;
        return done(was);
    }

    int dial(int line, int to) {
        int why = now.dialRefused(line, to);
        return why != 0 ? refused(why) : done(now.dial(line, to));
    }

    int take(int line) {
        int why = now.takeRefused(line);
        return why != 0 ? refused(why) : done(now.take(line));
    }

    int down(int line) {
        int why = now.downRefused(line);
        return why != 0 ? refused(why) : done(now.down(line));
    }

    int tick() {
        if (now.tick == 1000) {
            return refused(2);
        }
        now.tick();
        return done(now.tick);
    }

    int image() {
        kept = now.copy();
        return done(1);
    }

    int restore() {
        if (restored == 10) {
            return refused(2);
        }
        if (kept == null) {
            return refused(3);
        }
        restored++;
        now = kept.copy();
        return done(now.tick);
    }

    int wishTold(int wish, int what) {
        if (!isWish(wish) || !within(what, 0, 5)) {
            return -1;
        }
        W w = now.wishes.get(wish);
        return new int[] {w.owner, w.kind, w.rank, w.target, w.number, w.on ? 1 : 0}[what];
    }

    int lineTold(int line, int what) {
        if (!now.line(line) || what < 0) {
            return -1;
        }
        List<Integer> order = now.order(line);
        if (what >= 5) {
            return what - 5 < order.size() ? order.get(what - 5) : -1;
        }
        int c = now.callOf(line);
        boolean rings = c != -1 && now.calls.get(c).ringing.contains(line);
        return new int[] {c, now.knocksAt(line), now.costs(line), rings ? 1 : 0, order.size()}[what];
    }

    private boolean isCall(int call) {
        return within(call, 0, now.calls.size() - 1);
    }

    int call(int call, int what) {
        if (!isCall(call) || !within(what, 0, 7)) {
            return -1;
        }
        C c = now.calls.get(call);
        int bits = 0;
        for (int line : c.ringing) {
            bits += 1 << line;
        }
        int state = List.of("rings", "speaks", "knocks", "ended").indexOf(c.state);
        int at = state == 1 ? c.taker : state == 2 ? c.knockedAt : -1;
        return new int[] {c.caller, state, c.reason, c.row.size(), bits, at, c.rung, c.acts.size()}[what];
    }

    int row(int call, int i) {
        return isCall(call) && within(i, 0, now.calls.get(call).row.size() - 1) ? now.calls.get(call).row.get(i) : -1;
    }

    int piece(int call, int i) {
        return isCall(call) && within(i, 0, now.calls.get(call).payers.size() - 1)
                ? now.calls.get(call).payers.get(i) : -1;
    }

    int acted(int call, int i) {
        return isCall(call) && within(i, 0, Math.min(10, now.calls.get(call).acts.size()) - 1)
                ? now.calls.get(call).acts.get(i) : -1;
    }

    int tells(int call, int line) {
        return !isCall(call) || !now.line(line) ? -1 : now.tells(now.calls.get(call), line) ? 1 : 0;
    }

    int backs(int i, int what) {
        return within(i, 0, now.backs.size() - 1) && within(what, 0, 1) ? now.backs.get(i)[what] : -1;
    }

    int judge(int kind, int a, int b, int set, int depth) {
        if (!now.judged(kind, a, b, set, depth)) {
            return refused(1);
        }
        theCase = now.judge(kind, a, b, set, depth);
        return done(theCase.size());
    }

    int actOf(int i) {
        return within(i, 0, theCase.size() - 1) ? theCase.get(i) : -1;
    }

    int alone(int kind, int a, int b, int set, int depth) {
        if (!now.judged(kind, a, b, set, depth)) {
            return -1;
        }
        for (int i = 0; i < now.wishes.size(); i++) {
            if (!List.of(1, 2, 4).contains(now.wishes.get(i).kind)) {
                continue;
            }
            World w = now.copy();
            for (W other : w.wishes) {
                if (List.of(1, 2, 4).contains(other.kind)) {
                    other.on = false;
                }
            }
            w.wishes.get(i).on = true;
            if (!w.judge(kind, a, b, set, depth).isEmpty()) {
                return i;
            }
        }
        return -1;
    }

    int peace(int wish, int kind, int a, int b, int set, int depth) {
        if (!isWish(wish) || !now.judged(kind, a, b, set, depth)) {
            return -1;
        }
        for (int rank = 0; rank <= 9; rank++) {
            World w = now.copy();
            w.wishes.get(wish).rank = rank;
            if (w.judge(kind, a, b, set, depth).isEmpty()) {
                return rank;
            }
        }
        return -1;
    }

    int count(int what) {
        int open = 0;
        for (C c : now.calls) {
            open += c.state.equals("ended") ? 0 : 1;
        }
        int[] all = {now.lines, now.wishes.size(), now.calls.size(), now.tick, now.backs.size(), open,
            theCase.size(), trace.size()};
        return within(what, 0, 7) ? all[what] : -1;
    }

    /** A wish with the bodies of its kind, as the host's own classes would have them. */
    private class Body {
        int n;
        int r;
        int t;

        int hear(int x) {
            trace.add(10);
            return x + n;
        }

        int turn(int x) {
            trace.add(11);
            return hear(x) * 2;
        }

        int pay(int x) {
            trace.add(12);
            return x - r;
        }

        int end(int x) {
            trace.add(13);
            return turn(x) ^ pay(x);
        }
    }

    private class OnwardBody extends Body {
        @Override int turn(int x) {
            trace.add(20);
            return super.turn(x) + t;
        }
    }

    private class ShutBody extends Body {
        @Override int hear(int x) {
            trace.add(30);
            return super.hear(x) * 3;
        }

        @Override int end(int x) {
            trace.add(31);
            return super.end(x + 1);
        }
    }

    private class HiddenBody extends ShutBody {
        @Override int hear(int x) {
            trace.add(40);
            return super.hear(x) - pay(x);
        }

        @Override int turn(int x) {
            trace.add(41);
            return super.turn(x - t);
        }
    }

    private class WaitingBody extends Body {
        @Override int end(int x) {
            trace.add(50);
            return pay(x) - super.end(x);
        }
    }

    private class BackBody extends Body {
        @Override int pay(int x) {
            trace.add(60);
            return super.pay(x) + t;
        }
    }

    private class SharedBody extends Body {
        @Override int turn(int x) {
            trace.add(70);
            return super.turn(x) ^ hear(t);
        }
    }

    private class PaidBody extends Body {
        @Override int pay(int x) {
            trace.add(80);
            return super.pay(x) * 2;
        }
    }

    private Body body(int wish) {
        W w = now.wishes.get(wish);
        Body[] all = {new Body(), new OnwardBody(), new ShutBody(), new HiddenBody(), new WaitingBody(),
            new BackBody(), new SharedBody(), new PaidBody()};
        Body b = all[w.kind];
        b.n = wish;
        b.r = w.rank;
        b.t = w.target;
        return b;
    }

    int act(int wish, int act, int x) {
        if (!isWish(wish) || !within(act, 0, 3)) {
            return refused(1);
        }
        trace = new ArrayList<>();
        Body b = body(wish);
        return done(act == 0 ? b.hear(x) : act == 1 ? b.turn(x) : act == 2 ? b.pay(x) : b.end(x));
    }

    int trace(int i) {
        return within(i, 0, Math.min(50, trace.size()) - 1) ? trace.get(i) : -1;
    }

    int sheet(int sheet, int sort, int n) {
        if (!within(sheet, 0, 3) || !within(sort, -1, 2) || sort != -1 && !within(n, 0, 40)) {
            return refused(1);
        }
        sheets[sheet] = sort == 0 ? new byte[n] : sort == 1 ? new short[n] : sort == 2 ? new int[n] : null;
        return done(1);
    }

    int cell(int sheet, int i, int v) {
        if (!within(sheet, 0, 3) || !within(v, -1000, 1000)) {
            return refused(1);
        }
        try {
            Object s = sheets[sheet];
            if (s instanceof byte[] b) {
                b[i] = (byte) v;
            } else if (s instanceof short[] h) {
                h[i] = (short) v;
            } else {
                ((int[]) s)[i] = v;
            }
        } catch (NullPointerException e) {
            return refused(10);
        } catch (ArrayIndexOutOfBoundsException e) {
            return refused(12);
        }
        return done(1);
    }

    /** What the machine itself says of it is what the document's host says. */
    private int asHost(RuntimeException e) {
        return refused(e instanceof NullPointerException ? 10
                : e instanceof ClassCastException ? 11
                : e instanceof IndexOutOfBoundsException ? 12
                : e instanceof NegativeArraySizeException ? 13
                : e instanceof ArrayStoreException ? 14 : 15);
    }

    int order(int sheet, int sort, int i) {
        if (!within(sheet, 0, 3) || !within(sort, 0, 2)) {
            return refused(1);
        }
        if (now.wishes.size() == 24) {
            return refused(2);
        }
        int[] five = new int[5];
        try {
            Object s = sheets[sheet];
            byte[] bytes = sort == 0 ? (byte[]) s : null;
            short[] shorts = sort == 1 ? (short[]) s : null;
            int[] ints = sort == 2 ? (int[]) s : null;
            for (int k = 0; k < 5; k++) {
                five[k] = sort == 0 ? bytes[i + k] : sort == 1 ? shorts[i + k] : ints[i + k];
            }
        } catch (RuntimeException e) {
            return asHost(e);
        }
        if (!fits(five[0], five[1], five[2], five[3], five[4])) {
            return refused(3);
        }
        return wish(five[0], five[1], five[2], five[3], five[4]);
    }

    int forge(int what, int n, int k) {
        if (!within(what, 0, 6) || !within(n, -100, 100) || !within(k, -100, 100)) {
            return refused(1);
        }
        try {
            return done(forged(what, n, k));
        } catch (RuntimeException e) {
            return asHost(e);
        }
    }

    private static Class<?>[] kinds() {
        return new Class<?>[] {Body.class, OnwardBody.class, ShutBody.class, HiddenBody.class, WaitingBody.class,
            BackBody.class, SharedBody.class, PaidBody.class};
    }

    private int forged(int what, int n, int k) {
        int wish = (k + 240) % 24;
        Body body = isWish(wish) ? body(wish) : null;
        Object sheet = sheets[(k + 400) % 4];
        switch (what) {
            case 0:
                kinds()[(n + 800) % 8].cast(java.util.Objects.requireNonNull(body));
                return now.wishes.get(wish).kind;
            case 1:
                return new int[n].length;
            case 2:
                return ((short[]) sheet)[n];
            case 3:
                byte[] six = new byte[6];
                System.arraycopy((byte[]) sheet, 1, six, n, n);
                int sum = 0;
                for (byte b : six) {
                    sum += b;
                }
                return sum;
            case 4:
                Object[] shut = new ShutBody[1];
                shut[0] = body;
                return body == null ? 0 : now.wishes.get(wish).kind;
            case 5:
                return 1000 / n;
            default:
                if ((n + 100) % 2 == 0) {
                    throw new NullPointerException();
                }
                return 1;
        }
    }

    int status() {
        return status;
    }
}
