import java.util.ArrayDeque;
import java.util.ArrayList;
import java.util.Arrays;
import java.util.Deque;
import java.util.HashMap;
import java.util.HashSet;
import java.util.List;
import java.util.Map;
import java.util.Set;
import java.util.function.IntBinaryOperator;
import java.util.regex.Matcher;
import java.util.regex.Pattern;

/**
 * The document once more, in the slowest and plainest way (all orders, all ways, all pairs), written apart from
 * src/main/java/WidowWeight.java, so that a slip in one shows against the other.
 */
final class Reference {
    // Keepers' kinds as classes, each under the one told.
    static class Plain {
        int next(int g, int d) {
            return g;
        }

        boolean lends(int d, int m, int f) {
            return m + f > 4;
        }
    }

    static class Fading extends Plain {
        @Override int next(int g, int d) {
            int plain = super.next(g, d);
            if (d % 2 == 0) {
                plain--;
            }
            return plain < 1 ? 1 : plain;
        }
    }

    static class Merry extends Plain {
        @Override boolean lends(int d, int m, int f) {
            return false;
        }
    }

    static class Monday extends Plain {
        @Override boolean lends(int d, int m, int f) {
            if (d % 7 == 0 || f >= 5) {
                return super.lends(d, m, f);
            }
            return false;
        }
    }

    static class Old extends Fading {
        @Override int next(int g, int d) {
            return super.next(super.next(g, d), d);
        }

        @Override boolean lends(int d, int m, int f) {
            return super.lends(d, m, f) || m >= 8;
        }
    }

    static class Wrapping extends Monday {
        @Override int next(int g, int d) {
            int monday = super.next(g, d);
            return d % 3 == 0 ? Math.min(250, monday + 1) : monday;
        }
    }

    static final Plain[] KEEPERS = {
        new Plain(), new Fading(), new Merry(), new Monday(), new Old(), new Wrapping()
    };

    static final IntBinaryOperator TRUE = (l, r) -> l > r ? 1 : l < r ? -1 : 0;
    static final IntBinaryOperator STIFF = (l, r) -> l - r > -3 && l - r < 3 ? 0 : TRUE.applyAsInt(l, r);
    static final IntBinaryOperator BENT = (l, r) -> TRUE.applyAsInt(l + 2, r);
    static final IntBinaryOperator TURNING = (l, r) -> TRUE.applyAsInt(l, r) * ((l + r) % 2 == 1 ? -1 : 1);
    static final IntBinaryOperator STUCK = (l, r) -> r == 0 ? 0 : STIFF.applyAsInt(l, r);
    static final IntBinaryOperator CROSSED = (l, r) -> -BENT.applyAsInt(l, r);
    static final List<IntBinaryOperator> BALANCES = List.of(TRUE, STIFF, BENT, TURNING, STUCK, CROSSED);

    static final class Keeper {
        int kind;
        int house;
        int is;
        int held;
        int mood;
        boolean lent;

        Keeper(int kind, int house, int is, int held, int mood, boolean lent) {
            this.kind = kind;
            this.house = house;
            this.is = is;
            this.held = held;
            this.mood = mood;
            this.lent = lent;
        }

        Keeper again() {
            return new Keeper(kind, house, is, held, mood, lent);
        }

        Plain ways() {
            return KEEPERS[kind];
        }
    }

    static final class World {
        List<Keeper> keepers = new ArrayList<>();
        int day;
        List<Integer> balances = new ArrayList<>();
        List<int[]> readings = new ArrayList<>();
        List<int[]> notes = new ArrayList<>();
        List<int[]> tippings = new ArrayList<>();
        Deque<World> past = new ArrayDeque<>();

        World again() {
            World w = moment();
            w.balances.addAll(balances);
            w.readings.addAll(readings);
            w.notes.addAll(notes);
            w.tippings.addAll(tippings);
            w.past.addAll(past);
            return w;
        }

        World moment() {
            World w = new World();
            w.day = day;
            for (Keeper k : keepers) {
                w.keepers.add(k.again());
            }
            return w;
        }

        void push() {
            past.addLast(moment());
            if (past.size() > 8) {
                past.removeFirst();
            }
        }

        boolean bring(int k, int gift) {
            Keeper w = keepers.get(k);
            w.lent = w.ways().lends(day, w.mood, gift);
            w.mood = w.lent ? Math.min(9, w.mood + gift / 3) : Math.max(0, w.mood - 1);
            return w.lent;
        }

        void pass() {
            for (Keeper w : keepers) {
                w.is = w.ways().next(w.is, day);
                w.mood += w.mood > 5 ? -1 : w.mood < 5 ? 1 : 0;
                w.lent = false;
            }
            day++;
        }

        void passReal(int n) {
            for (int i = 0; i < n; i++) {
                if (day < 9999) {
                    pass();
                }
            }
        }

        int all() {
            return keepers.stream().mapToInt(k -> k.is).sum();
        }

        int limit() {
            return 1 << keepers.size();
        }
    }

    World world = new World();
    World[] images = new World[2];
    String text = "";
    long above = 0;
    long below = 1;
    int[] status = new int[3];

    private int bad(int answer) {
        status[0]++;
        return answer;
    }

    private int no() {
        status[1]++;
        return -3;
    }

    private int full() {
        status[2]++;
        return -4;
    }

    private static boolean out(int x, int low, int high) {
        return x < low || x > high;
    }

    private boolean noKeeper(int k) {
        return out(k, 0, world.keepers.size() - 1);
    }

    private boolean noBalance(int b) {
        return out(b, 0, world.balances.size() - 1);
    }

    private boolean noStones(int bits) {
        return out(bits, 0, world.limit() - 1);
    }

    private boolean noPans(int left, int right) {
        return noStones(left) || noStones(right) || (left & right) != 0;
    }

    int market() {
        int were = world.keepers.size();
        world = new World();
        return were;
    }

    int keeper(int kind, int house, int g) {
        if (out(kind, 0, 5) || out(house, 0, 11) || out(g, 1, 250)) {
            return bad(-2);
        }
        if (world.keepers.size() == 7) {
            return full();
        }
        world.keepers.add(new Keeper(kind, house, g, g, 5, false));
        world.past.clear();
        return world.keepers.size() - 1;
    }

    int held(int k, int g) {
        if (noKeeper(k) || out(g, 1, 250)) {
            return bad(-2);
        }
        int was = world.keepers.get(k).held;
        world.keepers.get(k).held = g;
        world.past.clear();
        return was;
    }

    int balance(int kind) {
        if (out(kind, 0, 5)) {
            return bad(-2);
        }
        if (world.balances.size() == 4) {
            return full();
        }
        world.balances.add(kind);
        world.past.clear();
        return world.balances.size() - 1;
    }

    int type(int c) {
        if (out(c, 0, 127)) {
            return bad(-2);
        }
        if (text.length() == 150) {
            return full();
        }
        text += (char) c;
        return text.length();
    }

    int clear() {
        int had = text.length();
        text = "";
        return had;
    }

    private static final Pattern TOKEN = Pattern.compile("[a-z]+|[0-9]+|[^ ]", Pattern.DOTALL);

    private static int form(List<String> tokens, int i) {
        return i < tokens.size() ? i : -1;
    }

    int read() {
        List<String> tokens = new ArrayList<>();
        List<Integer> places = new ArrayList<>();
        Matcher m = TOKEN.matcher(text);
        while (m.find()) {
            tokens.add(m.group());
            places.add(m.start());
        }
        places.add(text.length());
        World told = new World();
        int items = 0;
        int i = 0;
        while (true) {
            if (items > 0 && i == tokens.size()) {
                world = told;
                return items;
            }
            if (form(tokens, i) < 0) {
                return -10 - places.get(i);
            }
            int[][] wants;
            switch (tokens.get(i)) {
                case "market":
                    wants = items == 0 ? new int[0][] : null;
                    break;
                case "keeper":
                    wants = items == 0 || told.keepers.size() == 7 ? null : new int[][] {{0, 5}, {0, 11}, {1, 99}};
                    break;
                case "mood":
                    wants = items == 0 ? null : new int[][] {{0, told.keepers.size() - 1}, {0, 9}};
                    break;
                case "balance":
                    wants = items == 0 || told.balances.size() == 4 ? null : new int[][] {{0, 5}};
                    break;
                case "days":
                    wants = items == 0 ? null : new int[][] {{1, 99}};
                    break;
                default:
                    wants = null;
            }
            if (wants == null) {
                return -10 - places.get(i);
            }
            String word = tokens.get(i++);
            int[] n = new int[3];
            for (int w = 0; w < wants.length; w++, i++) {
                if (i == tokens.size() || !tokens.get(i).matches("[0-9]{1,2}")) {
                    return -10 - places.get(i);
                }
                n[w] = Integer.parseInt(tokens.get(i));
                if (out(n[w], wants[w][0], wants[w][1])) {
                    return -10 - places.get(i);
                }
            }
            if (i == tokens.size() || !tokens.get(i).equals(";")) {
                return -10 - places.get(i);
            }
            i++;
            items++;
            if (word.equals("keeper")) {
                told.keepers.add(new Keeper(n[0], n[1], n[2], n[2], 5, false));
            } else if (word.equals("mood")) {
                told.keepers.get(n[0]).mood = n[1];
            } else if (word.equals("balance")) {
                told.balances.add(n[0]);
            } else if (word.equals("days")) {
                told.passReal(n[0]);
            }
        }
    }

    int visit(int k, int gift) {
        if (noKeeper(k) || out(gift, 0, 9)) {
            return bad(-2);
        }
        if (world.keepers.get(k).lent) {
            return no();
        }
        world.push();
        return world.bring(k, gift) ? 1 : 0;
    }

    int day(int n) {
        if (out(n, 1, 99)) {
            return bad(-2);
        }
        world.push();
        world.passReal(n);
        return world.all();
    }

    int undo() {
        if (world.past.isEmpty()) {
            return no();
        }
        World was = world.past.removeLast();
        world.day = was.day;
        // an image may keep the same moment: what goes on must not change it
        world.keepers = was.moment().keepers;
        return world.day;
    }

    private int told(int k, int what) {
        Keeper w = world.keepers.get(k);
        return new int[] {w.kind, w.house, w.is, w.held, w.mood, w.lent ? 1 : 0}[what];
    }

    int of(int k, int what) {
        return noKeeper(k) || out(what, 0, 5) ? bad(-2) : told(k, what);
    }

    private int isBehind(int k, int m) {
        World w = world.again();
        for (int i = 0; i < m; i++) {
            w.pass();
        }
        return w.keepers.get(k).is;
    }

    int then(int k, int m) {
        return noKeeper(k) || out(m, 0, 99) ? bad(-2) : isBehind(k, m);
    }

    int off(int k, int x) {
        if (noKeeper(k) || out(x, 1, 99)) {
            return bad(-2);
        }
        World w = world.again();
        for (int m = 0; m <= 99; m++) {
            int unlike = w.keepers.get(k).is - w.keepers.get(k).held;
            if (unlike >= x || -unlike >= x) {
                return m;
            }
            w.pass();
        }
        return -1;
    }

    /** All level ways: how many stones, the code, what the load is. */
    private List<int[]> ways(int l, int lent) {
        List<int[]> ways = new ArrayList<>();
        int codes = 1;
        for (int k = 0; k < world.keepers.size(); k++) {
            codes *= 3;
        }
        for (int code = 0; code < codes; code++) {
            int rest = code;
            int used = 0;
            int left = l;
            int right = 0;
            int truth = 0;
            boolean may = true;
            for (Keeper w : world.keepers) {
                int place = rest % 3;
                rest /= 3;
                used += place > 0 ? 1 : 0;
                may &= place == 0 || lent == 0 || w.lent;
                left += place == 1 ? w.held : 0;
                right += place == 2 ? w.held : 0;
                truth += place == 1 ? -w.is : place == 2 ? w.is : 0;
            }
            if (may && left == right) {
                ways.add(new int[] {used, code, truth});
            }
        }
        return ways;
    }

    int load(int l, int lent, int what) {
        if (out(l, 1, 999) || out(lent, 0, 1) || out(what, 0, 2)) {
            return bad(-20000);
        }
        List<int[]> ways = ways(l, lent);
        ways.sort((a, b) -> a[0] != b[0] ? a[0] - b[0] : a[1] - b[1]);
        return ways.isEmpty() ? -10000 : ways.get(0)[what];
    }

    int gain(int l, int lent) {
        if (out(l, 1, 999) || out(lent, 0, 1)) {
            return bad(-20000);
        }
        return ways(l, lent).stream().mapToInt(w -> w[2]).min().orElse(-10000);
    }

    private int bestHours;
    private List<Integer> bestRow;

    private void walk(List<Integer> row, int keepers, int house, int hours) {
        if (keepers == 0) {
            int all = hours + apart(house, 0);
            if (bestRow == null || all < bestHours) {
                bestHours = all;
                bestRow = new ArrayList<>(row);
            }
            return;
        }
        for (int k = 0; k < 7; k++) {
            if ((keepers >> k & 1) == 1) {
                row.add(k);
                int to = world.keepers.get(k).house;
                walk(row, keepers ^ 1 << k, to, hours + apart(house, to) + 1);
                row.remove(row.size() - 1);
            }
        }
    }

    private static int apart(int a, int b) {
        int on = Math.floorMod(b - a, 12);
        return Math.min(on, 12 - on);
    }

    int round(int keepers, int i) {
        if (noStones(keepers) || keepers == 0 || i < -1) {
            return bad(-10);
        }
        bestRow = null;
        walk(new ArrayList<>(), keepers, 0, 0);
        return i == -1 ? bestHours : i < bestRow.size() ? bestRow.get(i) : -5;
    }

    int gifts(int keepers) {
        if (noStones(keepers)) {
            return bad(-2);
        }
        int sum = 0;
        for (int k = 0; k < world.keepers.size(); k++) {
            Keeper w = world.keepers.get(k);
            if ((keepers >> k & 1) == 0 || w.lent) {
                continue;
            }
            int f = 0;
            while (f <= 9 && !w.ways().lends(world.day, w.mood, f)) {
                f++;
            }
            if (f > 9) {
                return -1;
            }
            sum += f;
        }
        return sum;
    }

    private int grains(int bits) {
        int sum = 0;
        for (int k = 0; k < world.keepers.size(); k++) {
            sum += (bits >> k & 1) * world.keepers.get(k).is;
        }
        return sum;
    }

    int tips(int b, int left, int right) {
        if (noBalance(b) || noPans(left, right)) {
            return bad(-2);
        }
        return BALANCES.get(world.balances.get(b)).applyAsInt(grains(left), grains(right));
    }

    int reading(int left, int right, int t) {
        if (noPans(left, right) || out(t, -1, 1)) {
            return bad(-2);
        }
        if (world.readings.size() == 6) {
            return full();
        }
        world.readings.add(new int[] {left, right, t});
        return world.readings.size();
    }

    int tipIfOff(int left, int right, int off, int by) {
        int[] pan = new int[2];
        for (int k = 0; k < world.keepers.size(); k++) {
            int grains = world.keepers.get(k).held + (k == off ? by : 0);
            pan[0] += (left >> k & 1) * grains;
            pan[1] += (right >> k & 1) * grains;
        }
        return TRUE.applyAsInt(pan[0], pan[1]);
    }

    /** All {stone, by} that may be. */
    private List<int[]> suspicions() {
        List<int[]> all = new ArrayList<>();
        for (int k = 0; k < world.keepers.size(); k++) {
            for (int by = -1; by <= 1; by += 2) {
                boolean fits = true;
                for (int[] r : world.readings) {
                    fits &= tipIfOff(r[0], r[1], k, by) == r[2];
                }
                if (fits) {
                    all.add(new int[] {k, by});
                }
            }
        }
        return all;
    }

    int maybe(int what) {
        if (out(what, 0, 1)) {
            return bad(-2);
        }
        return suspicions().stream().filter(s -> s[1] == (what == 0 ? -1 : 1)).mapToInt(s -> 1 << s[0]).sum();
    }

    private static int greatest(Map<Integer, Integer> parts) {
        return parts.values().stream().mapToInt(n -> n).max().orElse(0);
    }

    int lift() {
        List<int[]> all = suspicions();
        int n = world.keepers.size();
        if (all.isEmpty() || n < 2) {
            return -1;
        }
        int best = -1;
        int least = 1000;
        for (int i = n - 2; i >= 0; i--) {
            for (int j = n - 1; j > i; j--) {
                Map<Integer, Integer> parts = new HashMap<>();
                for (int[] s : all) {
                    parts.merge(tipIfOff(1 << i, 1 << j, s[0], s[1]), 1, Integer::sum);
                }
                if (greatest(parts) <= least) {
                    least = greatest(parts);
                    best = 8 * i + j;
                }
            }
        }
        return best;
    }

    int note(int k, int g, int d, int h) {
        if (noKeeper(k) || out(g, 1, 250) || out(d, 0, 99) || out(h, 1, 250)) {
            return bad(-2);
        }
        if (world.notes.size() == 6) {
            return full();
        }
        world.notes.add(new int[] {k, g, d, h});
        return world.notes.size();
    }

    int tipped(int b, int l, int r, int t) {
        if (noBalance(b) || out(l, 0, 999) || out(r, 0, 999) || out(t, -1, 1)) {
            return bad(-2);
        }
        if (world.tippings.size() == 6) {
            return full();
        }
        world.tippings.add(new int[] {b, l, r, t});
        return world.tippings.size();
    }

    int forget(int what) {
        if (out(what, 0, 2)) {
            return bad(-2);
        }
        List<int[]> rows = what == 0 ? world.readings : what == 1 ? world.notes : world.tippings;
        int were = rows.size();
        rows.clear();
        return were;
    }

    private Set<Integer> keeperKinds(int k) {
        Set<Integer> kinds = new HashSet<>(Arrays.asList(0, 1, 2, 3, 4, 5));
        for (int[] n : world.notes) {
            kinds.removeIf(kind -> n[0] == k && KEEPERS[kind].next(n[1], n[2]) != n[3]);
        }
        return kinds;
    }

    private Set<Integer> balanceKinds(int b) {
        Set<Integer> kinds = new HashSet<>(Arrays.asList(0, 1, 2, 3, 4, 5));
        for (int[] t : world.tippings) {
            kinds.removeIf(kind -> t[0] == b && BALANCES.get(kind).applyAsInt(t[1], t[2]) != t[3]);
        }
        return kinds;
    }

    private static int bits(Set<Integer> kinds) {
        return kinds.stream().mapToInt(k -> 1 << k).sum();
    }

    int is(int k) {
        return noKeeper(k) ? bad(-2) : bits(keeperKinds(k));
    }

    int watch(int k) {
        if (noKeeper(k)) {
            return bad(-2);
        }
        int best = -1;
        int least = 100;
        for (int d = 11; d >= 0 && !keeperKinds(k).isEmpty(); d--) {
            Map<Integer, Integer> parts = new HashMap<>();
            for (int kind : keeperKinds(k)) {
                parts.merge(KEEPERS[kind].next(world.keepers.get(k).is, d), 1, Integer::sum);
            }
            if (greatest(parts) <= least) {
                least = greatest(parts);
                best = d;
            }
        }
        return best;
    }

    int who(int b) {
        return noBalance(b) ? bad(-2) : bits(balanceKinds(b));
    }

    int lay(int b) {
        if (noBalance(b)) {
            return bad(-2);
        }
        int best = -1;
        int least = 100;
        for (int pair = 99; pair >= 0 && !balanceKinds(b).isEmpty(); pair--) {
            Map<Integer, Integer> parts = new HashMap<>();
            for (int kind : balanceKinds(b)) {
                parts.merge(BALANCES.get(kind).applyAsInt(pair / 10, pair % 10), 1, Integer::sum);
            }
            if (greatest(parts) <= least) {
                least = greatest(parts);
                best = pair;
            }
        }
        return best;
    }

    private int[] payoffs(Keeper w, int i, int j) {
        int[] gets = {-(i / 2), -(j / 2)};
        int more = Math.max(i, j);
        if (w.ways().lends(world.day, w.mood, more)) {
            gets[j > i ? 1 : 0] = 8 - more;
        }
        return gets;
    }

    int buyers(int w, int k) {
        if (noKeeper(w) || k < -1) {
            return bad(-10);
        }
        Keeper keeper = world.keepers.get(w);
        if (keeper.lent) {
            return no();
        }
        List<Integer> rest = new ArrayList<>();
        for (int pair = 0; pair < 100; pair++) {
            int[] gets = payoffs(keeper, pair / 10, pair % 10);
            int better = 0;
            for (int other = 0; other < 10; other++) {
                better += payoffs(keeper, other, pair % 10)[0] > gets[0] ? 1 : 0;
                better += payoffs(keeper, pair / 10, other)[1] > gets[1] ? 1 : 0;
            }
            if (better == 0) {
                rest.add(pair);
            }
        }
        return k == -1 ? rest.size() : k < rest.size() ? rest.get(k) : -5;
    }

    int refusals(int keepers, int gift, int c) {
        if (noStones(keepers) || out(gift, 0, 9) || out(c, 0, 10)) {
            return bad(-2);
        }
        above = 1;
        below = 1;
        for (int k = 0; k < world.keepers.size(); k++) {
            Keeper w = world.keepers.get(k);
            if ((keepers >> k & 1) == 1 && !w.lent) {
                above *= w.ways().lends(world.day, w.mood, gift) ? 10 - c : 0;
                below *= 10;
            }
        }
        for (long d = 10; d > 1; d--) {
            while (above > 0 && above % d == 0 && below % d == 0) {
                above /= d;
                below /= d;
            }
        }
        if (above == 0) {
            below = 1;
        }
        return 1;
    }

    int years(int seed, int n) {
        if (out(seed, 0, 999999) || out(n, 0, 60)) {
            return bad(-2);
        }
        World w = world.moment();
        long x = seed;
        int lent = 0;
        for (int i = 0; i < n; i++) {
            x = (x * 1103515245L + 12345L) & (1L << 31) - 1;
            int k = (int) ((x >> 16) % 7);
            if (k < w.keepers.size() && !w.keepers.get(k).lent) {
                lent += w.bring(k, (int) ((x >> 20) % 10)) ? 1 : 0;
            }
            w.pass();
        }
        return lent;
    }

    long part(int what) {
        return what == 0 ? above : what == 1 ? below : bad(-2);
    }

    int image(int i) {
        if (out(i, 0, 1)) {
            return bad(-2);
        }
        images[i] = world.again();
        return 1;
    }

    int from(int i) {
        if (out(i, 0, 1)) {
            return bad(-2);
        }
        if (images[i] == null) {
            return no();
        }
        world = images[i].again();
        return 1;
    }

    int status(int what) {
        return out(what, 0, 2) ? bad(-1) : status[what];
    }

    private int howMany(int what) {
        int lent = (int) world.keepers.stream().filter(k -> k.lent).count();
        return new int[] {world.keepers.size(), world.balances.size(), world.day, lent, world.all(),
            world.readings.size(), world.notes.size(), world.tippings.size(), world.past.size(), text.length()}[what];
    }

    int count(int what) {
        return out(what, 0, 9) ? bad(-2) : howMany(what);
    }

    long digest() {
        List<Long> all = new ArrayList<>();
        for (int what = 0; what < 10; what++) {
            all.add((long) howMany(what));
        }
        for (int k = 0; k < world.keepers.size(); k++) {
            for (int what = 0; what < 6; what++) {
                all.add((long) told(k, what));
            }
        }
        world.balances.forEach(b -> all.add((long) b));
        for (List<int[]> rows : List.of(world.readings, world.notes, world.tippings)) {
            for (int[] row : rows) {
                for (int v : row) {
                    all.add((long) v);
                }
            }
        }
        all.add(above);
        all.add(below);
        long h = 1481;
        for (long v : all) {
            h = 31 * h + v;
        }
        return h;
    }
}
