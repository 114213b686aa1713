/** Runs of calls, made by a counter that always goes the same way: the class must answer as Plain does. */
public final class PlainTest {
    private static final Check check = new Check();
    private static long seed;

    public static void main(String[] args) {
        int runs = args.length > 0 ? Integer.parseInt(args[0]) : 1500;
        int first = args.length > 1 ? Integer.parseInt(args[1]) : 0;
        for (int run = first; run < first + runs; run++) {
            seed = run * 7919L + 17;
            play(run);
        }
        check.end();
    }

    private static int upTo(int n) {
        seed = seed * 6364136223846793005L + 1442695040888963407L;
        return (int) ((seed >>> 33) % n);
    }

    /** Mostly a number below n, at times one outside. */
    private static int near(int n) {
        int which = upTo(40);
        if (which == 0) {
            return -1 - upTo(3);
        }
        if (which == 1) {
            return n + upTo(3);
        }
        if (which == 2 && upTo(4) == 0) {
            return upTo(2) == 0 ? Integer.MAX_VALUE - upTo(3) : Integer.MIN_VALUE + upTo(3);
        }
        return upTo(Math.max(1, n));
    }

    private static void play(int run) {
        WishLine x = new WishLine();
        Plain p = new Plain();
        int lines = 1 + upTo(8);
        int wishes = upTo(14);
        for (int i = 0; i < lines; i++) {
            check.due(run + ": line()", x.line(), p.line());
        }
        for (int i = 0; i < wishes; i++) {
            wish(run, x, p, lines);
        }
        int style = upTo(4);
        for (int i = 0; i < 120; i++) {
            change(run, x, p, style);
            check.due(run + ": status()", x.status(), p.status());
            for (int k = 0; k < 2; k++) {
                ask(run, x, p);
            }
        }
        compareAll(run, x, p);
    }

    private static void wish(int run, WishLine x, Plain p, int lines) {
        int owner = near(lines);
        int kind = near(8);
        int rank = near(upTo(2) == 0 ? 3 : 10);
        int target = near(lines);
        int number = kind == 1 ? near(upTo(3) == 0 ? 13 : 5) : near(32);
        String call = run + ": wish(" + owner + ", " + kind + ", " + rank + ", " + target + ", " + number + ")";
        check.due(call, x.wish(owner, kind, rank, target, number), p.wish(owner, kind, rank, target, number));
    }

    private static void change(int run, WishLine x, Plain p, int style) {
        int lines = p.now.lines;
        int which = upTo(style == 0 ? 100 : 60);
        if (which < 20) {
            int line = near(lines);
            int to = near(lines);
            check.due(run + ": dial(" + line + ", " + to + ")", x.dial(line, to), p.dial(line, to));
        } else if (which < 32) {
            check.due(run + ": tick()", x.tick(), p.tick());
        } else if (which < 44) {
            int line = ringing(p);
            check.due(run + ": take(" + line + ")", x.take(line), p.take(line));
        } else if (which < 52) {
            int line = near(lines);
            check.due(run + ": down(" + line + ")", x.down(line), p.down(line));
        } else if (which < 54) {
            wish(run, x, p, lines);
        } else if (which < 56) {
            int wish = near(p.now.wishes.size());
            boolean is = upTo(2) == 0;
            check.due(run + ": on(" + wish + ", " + is + ")", x.on(wish, is), p.on(wish, is));
        } else if (which < 57) {
            int wish = near(p.now.wishes.size());
            int n = near(10);
            check.due(run + ": rank(" + wish + ", " + n + ")", x.rank(wish, n), p.rank(wish, n));
        } else if (which < 58) {
            check.due(run + ": image()", x.image(), p.image());
        } else if (which < 59) {
            check.due(run + ": restore()", x.restore(), p.restore());
        } else if (which < 60) {
            if (upTo(4) == 0) {
                check.due(run + ": line()", x.line(), p.line());
            }
            judge(run, x, p);
        } else {
            host(run, x, p);
        }
    }

    /** A line that rings, if there is one. */
    private static int ringing(Plain p) {
        int from = upTo(8);
        for (int i = 0; i < 8; i++) {
            if (p.lineTold((from + i) % 8, 3) == 1 && upTo(8) != 0) {
                return (from + i) % 8;
            }
        }
        return near(p.now.lines);
    }

    private static int set(Plain p) {
        int set = 0;
        for (int i = upTo(4); i > 0; i--) {
            set |= 1 << upTo(p.now.lines);
        }
        return upTo(30) == 0 ? near(256) : set;
    }

    private static void judge(int run, WishLine x, Plain p) {
        int kind = near(3);
        int a = near(p.now.lines);
        int b = near(p.now.lines);
        int set = set(p);
        int depth = 1 + near(3);
        String args = "(" + kind + ", " + a + ", " + b + ", " + set + ", " + depth + ")";
        check.due(run + ": judge" + args, x.judge(kind, a, b, set, depth), p.judge(kind, a, b, set, depth));
        for (int i = -1; i < 4; i++) {
            check.due(run + ": actOf(" + i + ")", x.actOf(i), p.actOf(i));
        }
        if (upTo(3) == 0) {
            check.due(run + ": alone" + args, x.alone(kind, a, b, set, depth), p.alone(kind, a, b, set, depth));
        }
        if (upTo(3) == 0) {
            int wish = near(p.now.wishes.size());
            String call = run + ": peace of " + wish + args;
            check.due(call, x.peace(wish, kind, a, b, set, depth), p.peace(wish, kind, a, b, set, depth));
        }
    }

    private static void host(int run, WishLine x, Plain p) {
        int which = upTo(5);
        if (which == 0) {
            int wish = near(p.now.wishes.size());
            int act = near(4);
            int n = upTo(2) == 0 ? upTo(20) : (int) (seed >>> 20);
            check.due(run + ": act(" + wish + ", " + act + ", " + n + ")", x.act(wish, act, n), p.act(wish, act, n));
            for (int i = -1; i < 12; i++) {
                check.due(run + ": trace(" + i + ")", x.trace(i), p.trace(i));
            }
        } else if (which == 1) {
            int sheet = near(4);
            int sort = near(4) - 1;
            int n = near(upTo(2) == 0 ? 8 : 41);
            check.due(run + ": sheet(" + sheet + ", " + sort + ", " + n + ")",
                    x.sheet(sheet, sort, n), p.sheet(sheet, sort, n));
        } else if (which == 2) {
            int sheet = near(4);
            int i = near(upTo(2) == 0 ? 8 : 41);
            int v = upTo(2) == 0 ? near(8) : near(2002) - 1000;
            check.due(run + ": cell(" + sheet + ", " + i + ", " + v + ")", x.cell(sheet, i, v), p.cell(sheet, i, v));
        } else if (which == 3) {
            int sheet = near(4);
            Object s = sheet >= 0 && sheet < 4 ? p.sheets[sheet] : null;
            int own = s instanceof byte[] ? 0 : s instanceof short[] ? 1 : 2;
            int sort = upTo(4) == 0 ? near(3) : own;
            int i = near(upTo(2) == 0 ? 4 : 41);
            check.due(run + ": order(" + sheet + ", " + sort + ", " + i + ")",
                    x.order(sheet, sort, i), p.order(sheet, sort, i));
        } else {
            int what = near(7);
            int n = upTo(2) == 0 ? near(8) : near(203) - 101;
            int k = upTo(2) == 0 ? near(8) : near(203) - 101;
            check.due(run + ": forge(" + what + ", " + n + ", " + k + ")", x.forge(what, n, k), p.forge(what, n, k));
        }
    }

    private static void ask(int run, WishLine x, Plain p) {
        int call = near(p.now.calls.size());
        int line = near(p.now.lines);
        int i = near(9);
        switch (upTo(9)) {
            case 0:
                check.due(run + ": wishTold(" + i + ", " + line + ")", x.wishTold(i, line), p.wishTold(i, line));
                break;
            case 1:
                check.due(run + ": lineTold(" + line + ", " + i + ")", x.lineTold(line, i), p.lineTold(line, i));
                break;
            case 2:
                check.due(run + ": row(" + call + ", " + i + ")", x.row(call, i), p.row(call, i));
                break;
            case 3:
                check.due(run + ": piece(" + call + ", " + i + ")", x.piece(call, i), p.piece(call, i));
                break;
            case 4:
                check.due(run + ": acted(" + call + ", " + i + ")", x.acted(call, i), p.acted(call, i));
                break;
            case 5:
                check.due(run + ": tells(" + call + ", " + line + ")", x.tells(call, line), p.tells(call, line));
                break;
            case 6:
                check.due(run + ": backs(" + i + ", " + line + ")", x.backs(i, line), p.backs(i, line));
                break;
            case 7:
                check.due(run + ": count(" + i + ")", x.count(i), p.count(i));
                break;
            default:
                check.due(run + ": call(" + call + ", " + i + ")", x.call(call, i), p.call(call, i));
                break;
        }
    }

    private static void compareAll(int run, WishLine x, Plain p) {
        for (int what = -1; what < 9; what++) {
            check.due(run + ": count(" + what + ")", x.count(what), p.count(what));
        }
        for (int i = 0; i < 25; i++) {
            for (int what = -1; what < 7; what++) {
                check.due(run + ": wishTold(" + i + ", " + what + ")", x.wishTold(i, what), p.wishTold(i, what));
            }
        }
        for (int line = 0; line < 9; line++) {
            for (int what = -1; what < 20; what++) {
                check.due(run + ": lineTold(" + line + ", " + what + ")", x.lineTold(line, what), p.lineTold(line, what));
            }
        }
        for (int call = 0; call < p.now.calls.size() + 1; call++) {
            for (int what = -1; what < 12; what++) {
                String of = "(" + call + ", " + what + ")";
                check.due(run + ": call" + of, x.call(call, what), p.call(call, what));
                check.due(run + ": row" + of, x.row(call, what), p.row(call, what));
                check.due(run + ": piece" + of, x.piece(call, what), p.piece(call, what));
                check.due(run + ": acted" + of, x.acted(call, what), p.acted(call, what));
                check.due(run + ": tells" + of, x.tells(call, what), p.tells(call, what));
                check.due(run + ": backs" + of, x.backs(call, what), p.backs(call, what));
            }
        }
    }
}
