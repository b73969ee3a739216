import java.util.function.IntSupplier;

/** Runs of calls drawn by a seed, each answered by the class and by the Reference; all answers must be alike. */
public final class RandomRuns {
    private static final int RUNS = 400;
    private static final int CALLS = 512;

    private long state;
    private WidowWeight mine;
    private Reference due;
    private int run;
    private int calls;

    private RandomRuns(int run) {
        this.run = run;
        state = run * 7919L + 17;
    }

    public static void main(String[] args) {
        for (int run = 0; run < RUNS && !Check.sawWrong(); run++) {
            new RandomRuns(run).go();
        }
        Check.end();
    }

    private int below(int n) {
        state = state * 6364136223846793005L + 1442695040888963407L;
        return (int) ((state >>> 33) % n);
    }

    /** Mostly low .. high, now and then just outside or far away. */
    private int about(int low, int high) {
        int dice = below(60);
        if (dice == 0) {
            return low - 1;
        }
        if (dice == 1) {
            return high + 1;
        }
        if (dice == 2) {
            return new int[] {Integer.MIN_VALUE, Integer.MAX_VALUE, -1, 0, 31, 32, 1 << 30}[below(7)];
        }
        if (dice == 3) {
            return below(2) == 0 ? low : high;
        }
        return high < low ? low : low + below(high - low + 1);
    }

    private int keeper() {
        return about(0, due.world.keepers.size() - 1);
    }

    private int balance() {
        return about(0, due.world.balances.size() - 1);
    }

    private int stones() {
        return about(0, due.world.limit() - 1);
    }

    private int apartFrom(int left) {
        int other = stones();
        return below(20) == 0 ? other : other & ~left;
    }

    private void same(String call, IntSupplier got, IntSupplier want) {
        calls++;
        int answer;
        try {
            answer = got.getAsInt();
        } catch (RuntimeException e) {
            Check.that("run " + run + " call " + calls + ": " + call + " threw " + e, false);
            return;
        }
        Check.due("run " + run + " call " + calls + ": " + call, answer, want.getAsInt());
    }

    private void go() {
        mine = new WidowWeight();
        due = new Reference();
        int style = below(4);
        if (style > 0) {
            start();
        }
        while (calls < CALLS - 8 && !Check.sawWrong()) {
            if (style == 0 && below(30) == 0 && calls < CALLS - 120) {
                typeMarket();
            } else {
                act(below(40));
            }
            if (below(3) == 0) {
                calls++;
                Check.due("run " + run + " call " + calls + ": digest", mine.digest(), due.digest());
            }
        }
        Check.due("run " + run + ": digest", mine.digest(), due.digest());
        for (int what = 0; what <= 2; what++) {
            int w = what;
            same("status " + w, () -> mine.status(w), () -> due.status(w));
        }
    }

    private void start() {
        int keepers = below(8);
        for (int i = 0; i < keepers; i++) {
            comeKeeper();
        }
        int balances = below(5);
        for (int i = 0; i < balances; i++) {
            int kind = below(6);
            same("balance " + kind, () -> mine.balance(kind), () -> due.balance(kind));
        }
    }

    private void comeKeeper() {
        int kind = about(0, 5);
        int house = about(0, 11);
        int g = below(3) == 0 ? about(1, 250) : about(1, 12);
        same("keeper " + kind + " " + house + " " + g, () -> mine.keeper(kind, house, g),
            () -> due.keeper(kind, house, g));
    }

    private void typeMarket() {
        StringBuilder b = new StringBuilder(below(12) == 0 ? "" : "market;");
        int items = below(9);
        for (int i = 0; i < items; i++) {
            int n = below(4);
            String item = n == 0 ? "keeper" + num(5) + num(11) + num(99)
                : n == 1 ? "mood" + num(i / 2) + num(9)
                : n == 2 ? "balance" + num(5)
                : "days" + num(99);
            b.append(item).append(below(5) == 0 ? " ;" : ";");
        }
        if (below(3) == 0 && b.length() > 0) {
            int at = below(b.length());
            String odd = "; 019az{/:Am-\t";
            if (below(2) == 0) {
                b.setCharAt(at, odd.charAt(below(odd.length())));
            } else {
                b.setLength(at);
            }
        }
        same("clear", () -> mine.clear(), () -> due.clear());
        for (int i = 0; i < b.length() && i < 110; i++) {
            int c = b.charAt(i);
            same("type " + c, () -> mine.type(c), () -> due.type(c));
        }
        same("read of " + due.text, () -> mine.read(), () -> due.read());
    }

    private String num(int high) {
        int n = below(25) == 0 ? below(120) : below(high + 1);
        return " " + (below(8) == 0 && n < 10 ? "0" : "") + n;
    }

    private void act(int which) {
        switch (which % 4) {
            case 0:
                change(which / 4);
                break;
            case 1:
                askStones(which / 4);
                break;
            case 2:
                askDoubts(which / 4);
                break;
            default:
                askRest(which / 4);
        }
    }

    private void change(int which) {
        int k = keeper();
        int gift = about(0, 9);
        int n = below(6) == 0 ? about(1, 99) : 1 + below(9);
        int g = below(2) == 0 ? about(1, 250) : about(1, 12);
        int kind = about(0, 5);
        int i = about(0, 1);
        switch (which) {
            case 0:
                comeKeeper();
                break;
            case 1:
                same("held " + k + " " + g, () -> mine.held(k, g), () -> due.held(k, g));
                break;
            case 2:
                if (below(4) == 0) {
                    same("balance " + kind, () -> mine.balance(kind), () -> due.balance(kind));
                } else {
                    same("years", () -> mine.years(g * 3999, n), () -> due.years(g * 3999, n));
                }
                break;
            case 3:
            case 4:
            case 5:
                same("visit " + k + " " + gift, () -> mine.visit(k, gift), () -> due.visit(k, gift));
                break;
            case 6:
                same("day " + n, () -> mine.day(n), () -> due.day(n));
                break;
            case 7:
                same("undo", () -> mine.undo(), () -> due.undo());
                break;
            case 8:
                same("image " + i, () -> mine.image(i), () -> due.image(i));
                break;
            default:
                if (below(6) == 0) {
                    same("from " + i, () -> mine.from(i), () -> due.from(i));
                } else if (below(30) == 0) {
                    same("market", () -> mine.market(), () -> due.market());
                }
        }
    }

    private void askStones(int which) {
        int k = keeper();
        int m = about(0, 99);
        int x = below(2) == 0 ? about(1, 9) : about(1, 99);
        int l = below(3) > 0 ? levelLoad() : about(1, 999);
        int lent = about(0, 1);
        int what = about(0, 2);
        int bits = stones();
        int i = about(-1, 7);
        int b = balance();
        int right = apartFrom(bits);
        switch (which) {
            case 0:
                same("then " + k + " " + m, () -> mine.then(k, m), () -> due.then(k, m));
                break;
            case 1:
                same("off " + k + " " + x, () -> mine.off(k, x), () -> due.off(k, x));
                break;
            case 2:
            case 3:
                same("load " + l + " " + lent + " " + what, () -> mine.load(l, lent, what),
                    () -> due.load(l, lent, what));
                break;
            case 4:
                same("gain " + l + " " + lent, () -> mine.gain(l, lent), () -> due.gain(l, lent));
                break;
            case 5:
                same("round " + bits + " " + i, () -> mine.round(bits, i), () -> due.round(bits, i));
                break;
            case 6:
                same("gifts " + bits, () -> mine.gifts(bits), () -> due.gifts(bits));
                break;
            case 7:
                same("tips " + b + " " + bits + " " + right, () -> mine.tips(b, bits, right),
                    () -> due.tips(b, bits, right));
                break;
            default:
                same("of " + k + " " + m % 6, () -> mine.of(k, m % 6), () -> due.of(k, m % 6));
        }
    }

    private void askDoubts(int which) {
        int k = keeper();
        int b = balance();
        switch (which) {
            case 0:
                reading();
                break;
            case 1:
                int what = about(0, 1);
                same("maybe " + what, () -> mine.maybe(what), () -> due.maybe(what));
                break;
            case 2:
                same("lift", () -> mine.lift(), () -> due.lift());
                break;
            case 3:
                note(k);
                break;
            case 4:
                tipped(b);
                break;
            case 5:
                int row = about(0, 2);
                same("forget " + row, () -> mine.forget(row), () -> due.forget(row));
                break;
            case 6:
                same("is " + k, () -> mine.is(k), () -> due.is(k));
                break;
            case 7:
                same("watch " + k, () -> mine.watch(k), () -> due.watch(k));
                break;
            case 8:
                same("who " + b, () -> mine.who(b), () -> due.who(b));
                break;
            default:
                same("lay " + b, () -> mine.lay(b), () -> due.lay(b));
        }
    }

    /** A load that some way to lay the stones makes level, where there is one. */
    private int levelLoad() {
        int sum = 0;
        for (Reference.Keeper k : due.world.keepers) {
            sum += (below(3) - 1) * k.held;
        }
        return sum == 0 ? about(1, 30) : Math.abs(sum);
    }

    /** Mostly as it would tip with one stone off, so that readings seldom leave nothing that may be. */
    private void reading() {
        int left = stones();
        int right = apartFrom(left);
        int t = below(4) > 0 ? due.tipIfOff(left, right, below(7), below(2) * 2 - 1) : about(-1, 1);
        same("reading " + left + " " + right + " " + t, () -> mine.reading(left, right, t),
            () -> due.reading(left, right, t));
    }

    /** Mostly as one of the kinds would tip. */
    private void tipped(int b) {
        int l = below(2) == 0 ? about(0, 9) : about(0, 999);
        int r = below(2) == 0 ? about(0, 9) : about(0, 999);
        int t = below(4) > 0 ? Reference.BALANCES.get(below(6)).applyAsInt(l, r) : about(-1, 1);
        same("tipped " + b + " " + l + " " + r + " " + t, () -> mine.tipped(b, l, r, t), () -> due.tipped(b, l, r, t));
    }

    /** Mostly what one of the kinds would be. */
    private void note(int k) {
        int g = below(3) == 0 ? about(1, 3) : about(1, 250);
        int d = about(0, 99);
        int h = below(4) > 0 ? Reference.KEEPERS[below(6)].next(g, d) : about(g - 2, g + 1);
        same("note " + k + " " + g + " " + d + " " + h, () -> mine.note(k, g, d, h), () -> due.note(k, g, d, h));
    }

    private void askRest(int which) {
        int k = keeper();
        int bits = stones();
        int gift = about(0, 9);
        int c = about(0, 10);
        switch (which) {
            case 0:
            case 1:
                int i = below(2) == 0 ? -1 : about(-1, 12);
                same("buyers " + k + " " + i, () -> mine.buyers(k, i), () -> due.buyers(k, i));
                break;
            case 2:
            case 3:
                same("refusals " + bits + " " + gift + " " + c, () -> mine.refusals(bits, gift, c),
                    () -> due.refusals(bits, gift, c));
                int part = about(0, 1);
                same("part " + part, () -> (int) mine.part(part), () -> (int) due.part(part));
                break;
            case 4:
                int seed = about(0, 999999);
                int n = about(0, 60);
                same("years " + seed + " " + n, () -> mine.years(seed, n), () -> due.years(seed, n));
                break;
            case 5:
                int what = about(0, 2);
                same("status " + what, () -> mine.status(what), () -> due.status(what));
                break;
            case 6:
                int of = about(0, 9);
                same("count " + of, () -> mine.count(of), () -> due.count(of));
                break;
            case 7:
                int byte7 = about(0, 127);
                same("type " + byte7, () -> mine.type(byte7), () -> due.type(byte7));
                break;
            case 8:
                if (below(3) == 0) {
                    same("read", () -> mine.read(), () -> due.read());
                }
                break;
            default:
                if (below(3) == 0) {
                    same("clear", () -> mine.clear(), () -> due.clear());
                }
        }
    }
}
