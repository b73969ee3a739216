/**
 * A market where nothing may be weighed but with stones lent by widows.
 * The promises are told in ../shared/DOC.md; how to use the class in README.md.
 *
 * The public methods look at what they are given and refuse; the classes inside do the rest and make no
 * objects, since all calls of a run share one room.
 */
public final class WidowWeight {
    public static final int NONE = -1, BAD = -2, NO = -3, FULL = -4;

    private static final int KINDS = 6;
    private static final int MOST_KEEPERS = 7;
    private static final int MOST_BALANCES = 4;
    private static final int MOST_TOLD = 6;
    private static final int MOST_BYTES = 150;
    private static final int LAST_DAY = 9999;
    private static final int LAST_HOUSE = 11;
    private static final int MOST_GRAINS = 250;
    private static final int MOST_LOAD = 999;
    private static final int MOST_GIFT = 9;
    private static final int MOST_MOOD = 9;
    private static final int FIRST_MOOD = 5;
    private static final int MOST_DAYS = 99;

    private static final int NOT_SO_MANY = -5;
    private static final int BAD_AT_PLACE = -10;
    private static final int NO_WAY = -10000;
    private static final int BAD_LOAD = -20000;

    private final Market here = new Market();
    private final Market imageZero = new Market();
    private final Market imageOne = new Market();
    private int keptImages;
    private final Row text = new Row(MOST_BYTES);
    private final TextReader reader = new TextReader(text);
    private final Moment dream = new Moment();
    private final Pans pans = new Pans();
    private final Walk walk = new Walk();
    private final Parts parts = new Parts();
    private long above;
    private long below;
    private int bads;
    private int nos;
    private int fulls;

    public WidowWeight() {
        below = 1;
    }

    // ---- a market

    public int market() {
        int were = here.keeperCount();
        here.restart();
        return were;
    }

    public int keeper(int kind, int house, int g) {
        if (!isKind(kind) || !between(house, 0, LAST_HOUSE) || !between(g, 1, MOST_GRAINS)) {
            return refuseBad(BAD);
        }
        if (here.kinds.isFull()) {
            return refuseFull();
        }
        here.addKeeper(kind, house, g);
        here.past.restart();
        return here.keeperCount() - 1;
    }

    public int held(int k, int g) {
        if (!here.hasKeeper(k) || !between(g, 1, MOST_GRAINS)) {
            return refuseBad(BAD);
        }
        int was = here.helds.at(k);
        here.helds.put(k, g);
        here.past.restart();
        return was;
    }

    public int balance(int kind) {
        if (!isKind(kind)) {
            return refuseBad(BAD);
        }
        if (here.balances.isFull()) {
            return refuseFull();
        }
        here.balances.add(kind);
        here.past.restart();
        return here.balances.size() - 1;
    }

    public int type(int c) {
        if (!between(c, 0, 127)) {
            return refuseBad(BAD);
        }
        if (text.isFull()) {
            return refuseFull();
        }
        text.add(c);
        return text.size();
    }

    public int clear() {
        int had = text.size();
        text.restart();
        return had;
    }

    public int read() {
        int answer = reader.readMarket();
        if (answer >= 0) {
            here.take(reader.told);
        }
        return answer;
    }

    // ---- days

    public int visit(int k, int gift) {
        if (!here.hasKeeper(k) || !between(gift, 0, MOST_GIFT)) {
            return refuseBad(BAD);
        }
        if (here.now.isLent(k)) {
            return refuseNo();
        }
        here.remember();
        return here.now.bringGift(k, here.kinds.at(k), gift) ? 1 : 0;
    }

    public int day(int n) {
        if (!between(n, 1, MOST_DAYS)) {
            return refuseBad(BAD);
        }
        here.remember();
        here.passDays(n);
        return here.now.stones.sumOf(here.allStones());
    }

    public int undo() {
        if (here.undoable() == 0) {
            return refuseNo();
        }
        here.now.restore(here.past);
        return here.now.day;
    }

    public int of(int k, int what) {
        if (!here.hasKeeper(k) || !between(what, 0, 5)) {
            return refuseBad(BAD);
        }
        return here.toldOf(k, what);
    }

    // ---- stones

    public int then(int k, int m) {
        if (!here.hasKeeper(k) || !between(m, 0, MOST_DAYS)) {
            return refuseBad(BAD);
        }
        int g = here.now.stones.at(k);
        for (int i = 0; i < m; i++) {
            g = KeeperKinds.behind(here.kinds.at(k), g, here.now.day + i);
        }
        return g;
    }

    public int off(int k, int x) {
        if (!here.hasKeeper(k) || !between(x, 1, 99)) {
            return refuseBad(BAD);
        }
        int g = here.now.stones.at(k);
        for (int m = 0; m <= MOST_DAYS; m++) {
            if (Math.abs(g - here.helds.at(k)) >= x) {
                return m;
            }
            g = KeeperKinds.behind(here.kinds.at(k), g, here.now.day + m);
        }
        return NONE;
    }

    public int load(int l, int lent, int what) {
        if (!between(l, 1, MOST_LOAD) || !between(lent, 0, 1) || !between(what, 0, 2)) {
            return refuseBad(BAD_LOAD);
        }
        pans.weigh(here, l, lent == 1 ? here.now.lent : here.allStones());
        if (!pans.found) {
            return NO_WAY;
        }
        return what == 0 ? pans.fewest : what == 1 ? pans.code : pans.truth;
    }

    public int gain(int l, int lent) {
        if (!between(l, 1, MOST_LOAD) || !between(lent, 0, 1)) {
            return refuseBad(BAD_LOAD);
        }
        pans.weigh(here, l, lent == 1 ? here.now.lent : here.allStones());
        return pans.found ? pans.leastTruth : NO_WAY;
    }

    public int round(int keepers, int i) {
        if (keepers == 0 || !here.hasStones(keepers) || i < NONE) {
            return refuseBad(BAD_AT_PLACE);
        }
        if (i >= Integer.bitCount(keepers)) {
            return NOT_SO_MANY;
        }
        walk.plan(here.houses, keepers);
        return i == NONE ? walk.hours() : walk.visited(i);
    }

    public int gifts(int keepers) {
        if (!here.hasStones(keepers)) {
            return refuseBad(BAD);
        }
        int together = 0;
        for (int k = 0; k < MOST_KEEPERS; k++) {
            if (hasBit(keepers, k) && !here.now.isLent(k)) {
                int gift = KeeperKinds.leastGift(here.kinds.at(k), here.now.day, here.now.moods.at(k));
                if (gift == NONE) {
                    return NONE;
                }
                together += gift;
            }
        }
        return together;
    }

    public int tips(int b, int left, int right) {
        if (!here.hasBalance(b) || !here.canLay(left, right)) {
            return refuseBad(BAD);
        }
        Row stones = here.now.stones;
        return BalanceKinds.tip(here.balances.at(b), stones.sumOf(left), stones.sumOf(right));
    }

    // ---- which is off

    public int reading(int left, int right, int t) {
        if (!here.canLay(left, right) || !between(t, -1, 1)) {
            return refuseBad(BAD);
        }
        if (here.readings.isFull()) {
            return refuseFull();
        }
        here.readings.add(left);
        here.readings.add(right);
        here.readings.add(t);
        return here.readingCount();
    }

    public int maybe(int what) {
        if (!between(what, 0, 1)) {
            return refuseBad(BAD);
        }
        return Doubts.mayBeOff(here, what == 0 ? Doubts.LIGHTER : Doubts.HEAVIER);
    }

    public int lift() {
        int lighter = Doubts.mayBeOff(here, Doubts.LIGHTER);
        int heavier = Doubts.mayBeOff(here, Doubts.HEAVIER);
        return (lighter | heavier) == 0 ? NONE : Doubts.bestPair(here, lighter, heavier, parts);
    }

    public int note(int k, int g, int d, int h) {
        if (!here.hasKeeper(k) || !between(g, 1, MOST_GRAINS) || !between(d, 0, 99) || !between(h, 1, MOST_GRAINS)) {
            return refuseBad(BAD);
        }
        if (here.notes.isFull()) {
            return refuseFull();
        }
        here.notes.add(k);
        here.notes.add(g);
        here.notes.add(d);
        here.notes.add(h);
        return here.noteCount();
    }

    public int tipped(int b, int l, int r, int t) {
        if (!here.hasBalance(b) || !between(l, 0, MOST_LOAD) || !between(r, 0, MOST_LOAD) || !between(t, -1, 1)) {
            return refuseBad(BAD);
        }
        if (here.tippings.isFull()) {
            return refuseFull();
        }
        here.tippings.add(b);
        here.tippings.add(l);
        here.tippings.add(r);
        here.tippings.add(t);
        return here.tippingCount();
    }

    public int forget(int what) {
        if (!between(what, 0, 2)) {
            return refuseBad(BAD);
        }
        int were = howMany(5 + what);
        Row told = what == 0 ? here.readings : what == 1 ? here.notes : here.tippings;
        told.restart();
        return were;
    }

    public int is(int k) {
        return here.hasKeeper(k) ? Doubts.kindsOfKeeper(here, k) : refuseBad(BAD);
    }

    public int watch(int k) {
        if (!here.hasKeeper(k)) {
            return refuseBad(BAD);
        }
        int kinds = Doubts.kindsOfKeeper(here, k);
        return kinds == 0 ? NONE : Doubts.bestDay(kinds, here.now.stones.at(k), parts);
    }

    public int who(int b) {
        return here.hasBalance(b) ? Doubts.kindsOfBalance(here, b) : refuseBad(BAD);
    }

    public int lay(int b) {
        if (!here.hasBalance(b)) {
            return refuseBad(BAD);
        }
        int kinds = Doubts.kindsOfBalance(here, b);
        return kinds == 0 ? NONE : Doubts.bestGrains(kinds, parts);
    }

    public int buyers(int w, int k) {
        if (!here.hasKeeper(w) || k < NONE) {
            return refuseBad(BAD_AT_PLACE);
        }
        if (here.now.isLent(w)) {
            return refuseNo();
        }
        int enough = KeeperKinds.giftsEnough(here.kinds.at(w), here.now.day, here.now.moods.at(w));
        if (k == NONE) {
            return Trade.restCount(enough);
        }
        int pair = Trade.restingPair(enough, k);
        return pair == NONE ? NOT_SO_MANY : pair;
    }

    public int refusals(int keepers, int gift, int c) {
        if (!here.hasStones(keepers) || !between(gift, 0, MOST_GIFT) || !between(c, 0, 10)) {
            return refuseBad(BAD);
        }
        long top = 1;
        long bottom = 1;
        for (int k = 0; k < MOST_KEEPERS; k++) {
            if (hasBit(keepers, k) && !here.now.isLent(k)) {
                top *= here.wouldLend(k, gift) ? 10 - c : 0;
                bottom *= 10;
            }
        }
        keepFraction(top, bottom);
        return 1;
    }

    public int years(int seed, int n) {
        if (!between(seed, 0, 999999) || !between(n, 0, 60)) {
            return refuseBad(BAD);
        }
        dream.take(here.now);
        long x = seed;
        int lent = 0;
        for (int i = 0; i < n; i++) {
            x = (x * 1103515245L + 12345L) % 2147483648L;
            int k = (int) (x / 65536L % 7L);
            int gift = (int) (x / 1048576L % 10L);
            if (here.hasKeeper(k) && !dream.isLent(k) && dream.bringGift(k, here.kinds.at(k), gift)) {
                lent++;
            }
            dream.passDay(here.kinds);
        }
        return lent;
    }

    // ---- what there is

    public long part(int what) {
        if (!between(what, 0, 1)) {
            return refuseBad(BAD);
        }
        return what == 0 ? above : below;
    }

    public int image(int i) {
        if (!between(i, 0, 1)) {
            return refuseBad(BAD);
        }
        imageNumber(i).take(here);
        keptImages |= 1 << i;
        return 1;
    }

    public int from(int i) {
        if (!between(i, 0, 1)) {
            return refuseBad(BAD);
        }
        if (!hasBit(keptImages, i)) {
            return refuseNo();
        }
        here.take(imageNumber(i));
        return 1;
    }

    public int status(int what) {
        switch (what) {
            case 0:
                return bads;
            case 1:
                return nos;
            case 2:
                return fulls;
            default:
                return refuseBad(-1);
        }
    }

    public int count(int what) {
        return between(what, 0, 9) ? howMany(what) : refuseBad(BAD);
    }

    public long digest() {
        long h = 1481;
        for (int what = 0; what <= 9; what++) {
            h = 31 * h + howMany(what);
        }
        for (int k = 0; k < here.keeperCount(); k++) {
            for (int what = 0; what <= 5; what++) {
                h = 31 * h + here.toldOf(k, what);
            }
        }
        h = here.balances.mixedInto(h);
        h = here.readings.mixedInto(h);
        h = here.notes.mixedInto(h);
        h = here.tippings.mixedInto(h);
        h = 31 * h + above;
        return 31 * h + below;
    }

    // ---- helpers of the face

    private int refuseBad(int answer) {
        bads++;
        return answer;
    }

    private int refuseNo() {
        nos++;
        return NO;
    }

    private int refuseFull() {
        fulls++;
        return FULL;
    }

    private Market imageNumber(int i) {
        return i == 0 ? imageZero : imageOne;
    }

    private int howMany(int what) {
        switch (what) {
            case 0:
                return here.keeperCount();
            case 1:
                return here.balances.size();
            case 2:
                return here.now.day;
            case 3:
                return Integer.bitCount(here.now.lent);
            case 4:
                return here.now.stones.sumOf(here.allStones());
            case 5:
                return here.readingCount();
            case 6:
                return here.noteCount();
            case 7:
                return here.tippingCount();
            case 8:
                return here.undoable();
            default:
                return text.size();
        }
    }

    private void keepFraction(long top, long bottom) {
        long shared = greatestDivisor(top, bottom);
        if (shared > 0) {
            above = top / shared;
            below = bottom / shared;
        }
    }

    private static long greatestDivisor(long a, long b) {
        // Euclid's steps shrink long numbers to nothing well within a hundred rounds.
        for (int i = 0; i < 100 && b != 0; i++) {
            long rest = a % b;
            a = b;
            b = rest;
        }
        return a;
    }

    private static boolean between(int number, int low, int high) {
        return number >= low && number <= high;
    }

    private static boolean isKind(int kind) {
        return between(kind, 0, KINDS - 1);
    }

    private static boolean hasBit(int bits, int i) {
        return i >= 0 && i < 32 && (bits >> i & 1) == 1;
    }

    /** Numbers in a row with room for so many; looks at every index, and tells 0 where there is none. */
    private static final class Row {
        private final int[] cells;
        private int used;

        Row(int room) {
            cells = new int[Math.max(room, 0)];
        }

        int size() {
            return used;
        }

        boolean isFull() {
            return used >= cells.length;
        }

        int at(int i) {
            return i >= 0 && i < used && i < cells.length ? cells[i] : 0;
        }

        void put(int i, int value) {
            if (i >= 0 && i < used && i < cells.length) {
                cells[i] = value;
            }
        }

        void add(int value) {
            if (used >= 0 && used < cells.length) {
                cells[used] = value;
                used++;
            }
        }

        void restart() {
            used = 0;
        }

        /** The numbers left from earlier uses count again: for tables that are written before they are read. */
        void useAll() {
            used = cells.length;
        }

        void dropLast(int n) {
            used = Math.max(used - Math.max(n, 0), 0);
        }

        void dropFirst(int n) {
            int skipped = Math.max(n, 0);
            for (int i = 0; i + skipped < used; i++) {
                put(i, at(i + skipped));
            }
            dropLast(skipped);
        }

        void take(Row other) {
            restart();
            for (int i = 0; i < other.used; i++) {
                add(other.at(i));
            }
        }

        int sumOf(int chosen) {
            int sum = 0;
            for (int i = 0; i < used; i++) {
                if (hasBit(chosen, i)) {
                    sum += at(i);
                }
            }
            return sum;
        }

        long mixedInto(long h) {
            for (int i = 0; i < used; i++) {
                h = 31 * h + at(i);
            }
            return h;
        }
    }

    /** What the kinds of keepers say, each by the kind that it stands under; MERRY (2) only tells that it never lends. */
    private static final class KeeperKinds {
        private static final int PLAIN = 0, FADING = 1, MONDAY = 3, OLD = 4, WRAPPING = 5;

        /** PLAIN leaves a stone as it is, and so do those who stand under PLAIN and tell nothing else. */
        static int behind(int kind, int g, int d) {
            switch (kind) {
                case FADING:
                    return fadingBehind(g, d);
                case OLD:
                    return fadingBehind(fadingBehind(g, d), d);
                case WRAPPING:
                    return d % 3 == 0 ? Math.min(MOST_GRAINS, g + 1) : g;
                default:
                    return g;
            }
        }

        static boolean lends(int kind, int d, int m, int f) {
            switch (kind) {
                case PLAIN:
                case FADING:
                    return plainLends(m, f);
                case MONDAY:
                case WRAPPING:
                    return (d % 7 == 0 || f >= 5) && plainLends(m, f);
                case OLD:
                    return plainLends(m, f) || m >= 8;
                default:
                    return false;
            }
        }

        static int leastGift(int kind, int d, int m) {
            for (int f = 0; f <= MOST_GIFT; f++) {
                if (lends(kind, d, m, f)) {
                    return f;
                }
            }
            return NONE;
        }

        /** The gifts, as bits, for which one would lend. */
        static int giftsEnough(int kind, int d, int m) {
            int bits = 0;
            for (int f = 0; f <= MOST_GIFT; f++) {
                if (lends(kind, d, m, f)) {
                    bits |= 1 << f;
                }
            }
            return bits;
        }

        private static int fadingBehind(int g, int d) {
            return d % 2 == 0 && g > 1 ? g - 1 : g;
        }

        private static boolean plainLends(int m, int f) {
            return m + f >= 5;
        }
    }

    /** What the kinds of balances say; each asks the kind that it stands under. */
    private static final class BalanceKinds {
        private static final int TRUE = 0, STIFF = 1, BENT = 2, TURNING = 3, STUCK = 4, CROSSED = 5;

        static int tip(int kind, int l, int r) {
            switch (kind) {
                case TRUE:
                    return trueTip(l, r);
                case STIFF:
                    return stiffTip(l, r);
                case BENT:
                    return bentTip(l, r);
                case TURNING:
                    return (l + r) % 2 == 0 ? trueTip(l, r) : -trueTip(l, r);
                case STUCK:
                    return r == 0 ? 0 : stiffTip(l, r);
                case CROSSED:
                    return -bentTip(l, r);
                default:
                    return 0;
            }
        }

        static int trueTip(int l, int r) {
            return Integer.compare(l, r);
        }

        private static int stiffTip(int l, int r) {
            return Math.abs(l - r) < 3 ? 0 : trueTip(l, r);
        }

        private static int bentTip(int l, int r) {
            return trueTip(l + 2, r);
        }
    }

    /** All that days and visits change, and so all that an undoing brings back. */
    private static final class Moment {
        static final int SIZE = 2 + 2 * MOST_KEEPERS;

        int day;
        int lent;
        final Row stones = new Row(MOST_KEEPERS);
        final Row moods = new Row(MOST_KEEPERS);

        void restart() {
            day = 0;
            lent = 0;
            stones.restart();
            moods.restart();
        }

        void take(Moment other) {
            day = other.day;
            lent = other.lent;
            stones.take(other.stones);
            moods.take(other.moods);
        }

        boolean isLent(int k) {
            return hasBit(lent, k);
        }

        boolean bringGift(int k, int kind, int gift) {
            int mood = moods.at(k);
            boolean lends = KeeperKinds.lends(kind, day, mood, gift);
            if (lends) {
                lent |= 1 << k;
            }
            moods.put(k, lends ? Math.min(mood + gift / 3, MOST_MOOD) : Math.max(mood - 1, 0));
            return lends;
        }

        void passDay(Row kinds) {
            for (int k = 0; k < stones.size(); k++) {
                stones.put(k, KeeperKinds.behind(kinds.at(k), stones.at(k), day));
                moods.put(k, moods.at(k) + Integer.compare(FIRST_MOOD, moods.at(k)));
            }
            lent = 0;
            day++;
        }

        /** Every moment takes the same room, so that the row's length tells how many there are. */
        void store(Row past) {
            past.add(day);
            past.add(lent);
            for (int k = 0; k < MOST_KEEPERS; k++) {
                past.add(stones.at(k));
                past.add(moods.at(k));
            }
        }

        void restore(Row past) {
            int first = past.size() - SIZE;
            day = past.at(first);
            lent = past.at(first + 1);
            for (int k = 0; k < MOST_KEEPERS; k++) {
                stones.put(k, past.at(first + 2 + 2 * k));
                moods.put(k, past.at(first + 3 + 2 * k));
            }
            past.dropLast(SIZE);
        }
    }

    /** All that an image keeps and that a market which is read takes the place of. */
    private static final class Market {
        private static final int READING_SIZE = 3, NOTE_SIZE = 4, TIPPING_SIZE = 4, MOST_UNDONE = 8;

        final Row kinds = new Row(MOST_KEEPERS);
        final Row houses = new Row(MOST_KEEPERS);
        final Row helds = new Row(MOST_KEEPERS);
        final Row balances = new Row(MOST_BALANCES);
        final Row readings = new Row(READING_SIZE * MOST_TOLD);
        final Row notes = new Row(NOTE_SIZE * MOST_TOLD);
        final Row tippings = new Row(TIPPING_SIZE * MOST_TOLD);
        final Row past = new Row(Moment.SIZE * MOST_UNDONE);
        final Moment now = new Moment();

        void restart() {
            kinds.restart();
            houses.restart();
            helds.restart();
            balances.restart();
            readings.restart();
            notes.restart();
            tippings.restart();
            past.restart();
            now.restart();
        }

        void take(Market other) {
            kinds.take(other.kinds);
            houses.take(other.houses);
            helds.take(other.helds);
            balances.take(other.balances);
            readings.take(other.readings);
            notes.take(other.notes);
            tippings.take(other.tippings);
            past.take(other.past);
            now.take(other.now);
        }

        int keeperCount() {
            return kinds.size();
        }

        int readingCount() {
            return readings.size() / READING_SIZE;
        }

        int noteCount() {
            return notes.size() / NOTE_SIZE;
        }

        int tippingCount() {
            return tippings.size() / TIPPING_SIZE;
        }

        int undoable() {
            return past.size() / Moment.SIZE;
        }

        int allStones() {
            return (1 << keeperCount()) - 1;
        }

        boolean hasKeeper(int k) {
            return between(k, 0, keeperCount() - 1);
        }

        boolean hasBalance(int b) {
            return between(b, 0, balances.size() - 1);
        }

        boolean hasStones(int bits) {
            return between(bits, 0, allStones());
        }

        boolean canLay(int left, int right) {
            return hasStones(left) && hasStones(right) && (left & right) == 0;
        }

        boolean wouldLend(int k, int gift) {
            return KeeperKinds.lends(kinds.at(k), now.day, now.moods.at(k), gift);
        }

        void addKeeper(int kind, int house, int g) {
            kinds.add(kind);
            houses.add(house);
            helds.add(g);
            now.stones.add(g);
            now.moods.add(FIRST_MOOD);
        }

        void passDays(int n) {
            for (int i = 0; i < n && now.day < LAST_DAY; i++) {
                now.passDay(kinds);
            }
        }

        void remember() {
            if (past.isFull()) {
                past.dropFirst(Moment.SIZE);
            }
            now.store(past);
        }

        int toldOf(int k, int what) {
            switch (what) {
                case 0:
                    return kinds.at(k);
                case 1:
                    return houses.at(k);
                case 2:
                    return now.stones.at(k);
                case 3:
                    return helds.at(k);
                case 4:
                    return now.moods.at(k);
                default:
                    return now.isLent(k) ? 1 : 0;
            }
        }
    }

    /** Tries all ways to lay stones beside a load and against it, in the order of their codes. */
    private static final class Pans {
        private static final int UNUSED = 0, LEFT = 1, RIGHT = 2;
        private static final int MOST_WAYS = 2187;

        boolean found;
        int fewest;
        int code;
        int truth;
        int leastTruth;

        private final Row places = new Row(MOST_KEEPERS);
        private int usedNow;
        private int codeNow;
        private int heldNow;
        private int truthNow;

        void weigh(Market market, int load, int usable) {
            found = false;
            layNothing();
            for (int ways = 0; ways < MOST_WAYS && layNext(market, usable); ways++) {
                if (heldNow == load) {
                    keepWay();
                }
            }
        }

        private void layNothing() {
            places.restart();
            for (int k = 0; k < MOST_KEEPERS; k++) {
                places.add(UNUSED);
            }
            usedNow = 0;
            codeNow = 0;
            heldNow = 0;
            truthNow = 0;
        }

        /** The codes rise, so a later way of as many stones never has the lesser code. */
        private void keepWay() {
            if (!found || usedNow < fewest) {
                fewest = usedNow;
                code = codeNow;
                truth = truthNow;
            }
            leastTruth = found ? Math.min(leastTruth, truthNow) : truthNow;
            found = true;
        }

        /** Counts on by one in figures of three, keeping the sums, so that no way is added up anew. */
        private boolean layNext(Market market, int usable) {
            int worth = 1;
            for (int k = 0; k < market.keeperCount(); k++) {
                if (hasBit(usable, k)) {
                    boolean carries = places.at(k) == RIGHT;
                    move(k, worth, market.helds.at(k), market.now.stones.at(k));
                    if (!carries) {
                        return true;
                    }
                }
                worth *= 3;
            }
            return false;
        }

        private void move(int k, int worth, int held, int stone) {
            int was = places.at(k);
            int becomes = was == UNUSED ? LEFT : was == LEFT ? RIGHT : UNUSED;
            int pull = pullOf(becomes) - pullOf(was);
            places.put(k, becomes);
            usedNow += was == UNUSED ? 1 : becomes == UNUSED ? -1 : 0;
            codeNow += worth * (becomes - was);
            heldNow += pull * held;
            truthNow += pull * stone;
        }

        private static int pullOf(int place) {
            return place == LEFT ? -1 : place == RIGHT ? 1 : 0;
        }
    }

    /** The least round of visits: for each set of keepers still to visit, the hours left from where one stands. */
    private static final class Walk {
        private static final int START = MOST_KEEPERS;
        private static final int WIDTH = MOST_KEEPERS + 1;
        private static final int ROUND = LAST_HOUSE + 1;
        private static final int MORE_THAN_ANY = 1000000;

        private final Row hoursLeft = new Row((1 << MOST_KEEPERS) * WIDTH);
        private final Row houses = new Row(WIDTH);
        private int told;

        void plan(Row homes, int keepers) {
            settle(homes);
            told = keepers;
            hoursLeft.useAll();
            for (int left = 0; left <= told; left++) {
                for (int at = 0; at <= START; at++) {
                    if (mayStand(left, at)) {
                        hoursLeft.put(left * WIDTH + at, leastHours(left, at));
                    }
                }
            }
        }

        int hours() {
            return hoursFrom(told, START);
        }

        int visited(int i) {
            int left = told;
            int at = START;
            for (int n = 0; n <= i && left != 0; n++) {
                at = firstBest(left, at);
                left &= ~(1 << at);
            }
            return at;
        }

        /** The start stands behind the keepers, at house 0. */
        private void settle(Row homes) {
            houses.restart();
            for (int at = 0; at < START; at++) {
                houses.add(homes.at(at));
            }
            houses.add(0);
        }

        private boolean mayStand(int left, int at) {
            return at == START ? left == told : (left & ~told) == 0 && hasBit(told & ~left, at);
        }

        private int leastHours(int left, int at) {
            return left == 0 ? way(at, START) : hoursBy(left, at, firstBest(left, at));
        }

        private int firstBest(int left, int at) {
            int best = 0;
            int least = MORE_THAN_ANY;
            for (int k = 0; k < MOST_KEEPERS; k++) {
                int hours = hasBit(left, k) ? hoursBy(left, at, k) : MORE_THAN_ANY;
                if (hours < least) {
                    best = k;
                    least = hours;
                }
            }
            return best;
        }

        private int hoursBy(int left, int at, int next) {
            return way(at, next) + 1 + hoursFrom(left & ~(1 << next), next);
        }

        private int hoursFrom(int left, int at) {
            return hoursLeft.at(left * WIDTH + at);
        }

        private int way(int a, int b) {
            int apart = Math.abs(houses.at(a) - houses.at(b));
            return Math.min(apart, ROUND - apart);
        }
    }

    /** Counts how many of some answers are alike: the greatest part is what a question leaves at worst. */
    private static final class Parts {
        private static final int MOST_ANSWERS = 2 * MOST_KEEPERS;

        private final Row answers = new Row(MOST_ANSWERS);
        private final Row counts = new Row(MOST_ANSWERS);
        private int greatest;

        void restart() {
            answers.restart();
            counts.restart();
            greatest = 0;
        }

        void add(int answer) {
            int i = placeOf(answer);
            counts.put(i, counts.at(i) + 1);
            greatest = Math.max(greatest, counts.at(i));
        }

        int greatestPart() {
            return greatest;
        }

        private int placeOf(int answer) {
            for (int i = 0; i < answers.size(); i++) {
                if (answers.at(i) == answer) {
                    return i;
                }
            }
            answers.add(answer);
            counts.add(0);
            return answers.size() - 1;
        }
    }

    /** What readings, notes and tipped ones leave possible, and which question parts it best. */
    private static final class Doubts {
        static final int LIGHTER = -1, HEAVIER = 1;
        private static final int LAST_WATCHED = 11;
        private static final int MOST_LAID = 9;

        /** The stones, as bits, of which one may be off by so much. */
        static int mayBeOff(Market market, int by) {
            int bits = 0;
            for (int k = 0; k < market.keeperCount(); k++) {
                if (fitsReadings(market, k, by)) {
                    bits |= 1 << k;
                }
            }
            return bits;
        }

        static int bestPair(Market market, int lighter, int heavier, Parts parts) {
            int best = NONE;
            int least = 0;
            for (int i = 0; i < market.keeperCount(); i++) {
                for (int j = i + 1; j < market.keeperCount(); j++) {
                    parts.restart();
                    addTips(parts, market, lighter, LIGHTER, i, j);
                    addTips(parts, market, heavier, HEAVIER, i, j);
                    if (best == NONE || parts.greatestPart() < least) {
                        best = 8 * i + j;
                        least = parts.greatestPart();
                    }
                }
            }
            return best;
        }

        static int kindsOfKeeper(Market market, int k) {
            int bits = 0;
            for (int kind = 0; kind < KINDS; kind++) {
                if (fitsNotes(market.notes, k, kind)) {
                    bits |= 1 << kind;
                }
            }
            return bits;
        }

        static int bestDay(int kinds, int g, Parts parts) {
            int best = NONE;
            int least = 0;
            for (int d = 0; d <= LAST_WATCHED; d++) {
                parts.restart();
                for (int kind = 0; kind < KINDS; kind++) {
                    if (hasBit(kinds, kind)) {
                        parts.add(KeeperKinds.behind(kind, g, d));
                    }
                }
                if (best == NONE || parts.greatestPart() < least) {
                    best = d;
                    least = parts.greatestPart();
                }
            }
            return best;
        }

        static int kindsOfBalance(Market market, int b) {
            int bits = 0;
            for (int kind = 0; kind < KINDS; kind++) {
                if (fitsTippings(market.tippings, b, kind)) {
                    bits |= 1 << kind;
                }
            }
            return bits;
        }

        static int bestGrains(int kinds, Parts parts) {
            int best = NONE;
            int least = 0;
            for (int l = 0; l <= MOST_LAID; l++) {
                for (int r = 0; r <= MOST_LAID; r++) {
                    parts.restart();
                    addTipsOfKinds(parts, kinds, l, r);
                    if (best == NONE || parts.greatestPart() < least) {
                        best = 10 * l + r;
                        least = parts.greatestPart();
                    }
                }
            }
            return best;
        }

        private static void addTips(Parts parts, Market market, int stones, int by, int i, int j) {
            for (int k = 0; k < market.keeperCount(); k++) {
                if (hasBit(stones, k)) {
                    parts.add(tipIfOff(market.helds, 1 << i, 1 << j, k, by));
                }
            }
        }

        private static void addTipsOfKinds(Parts parts, int kinds, int l, int r) {
            for (int kind = 0; kind < KINDS; kind++) {
                if (hasBit(kinds, kind)) {
                    parts.add(BalanceKinds.tip(kind, l, r));
                }
            }
        }

        private static boolean fitsReadings(Market market, int k, int by) {
            Row readings = market.readings;
            for (int i = 0; i + 2 < readings.size(); i += Market.READING_SIZE) {
                if (tipIfOff(market.helds, readings.at(i), readings.at(i + 1), k, by) != readings.at(i + 2)) {
                    return false;
                }
            }
            return true;
        }

        private static int tipIfOff(Row helds, int left, int right, int k, int by) {
            int l = helds.sumOf(left) + (hasBit(left, k) ? by : 0);
            int r = helds.sumOf(right) + (hasBit(right, k) ? by : 0);
            return BalanceKinds.trueTip(l, r);
        }

        private static boolean fitsNotes(Row notes, int k, int kind) {
            for (int i = 0; i + 3 < notes.size(); i += Market.NOTE_SIZE) {
                if (notes.at(i) == k && KeeperKinds.behind(kind, notes.at(i + 1), notes.at(i + 2)) != notes.at(i + 3)) {
                    return false;
                }
            }
            return true;
        }

        private static boolean fitsTippings(Row tippings, int b, int kind) {
            for (int i = 0; i + 3 < tippings.size(); i += Market.TIPPING_SIZE) {
                if (tippings.at(i) == b
                        && BalanceKinds.tip(kind, tippings.at(i + 1), tippings.at(i + 2)) != tippings.at(i + 3)) {
                    return false;
                }
            }
            return true;
        }
    }

    /** Two buyers before one keeper, who lends for the gifts that are enough (bits). */
    private static final class Trade {
        private static final int WORTH = 8;

        static int restCount(int enough) {
            int many = 0;
            for (int i = 0; i <= MOST_GIFT; i++) {
                for (int j = 0; j <= MOST_GIFT; j++) {
                    if (rests(enough, i, j)) {
                        many++;
                    }
                }
            }
            return many;
        }

        static int restingPair(int enough, int number) {
            int passed = 0;
            for (int i = 0; i <= MOST_GIFT; i++) {
                for (int j = 0; j <= MOST_GIFT; j++) {
                    if (rests(enough, i, j)) {
                        if (passed == number) {
                            return 10 * i + j;
                        }
                        passed++;
                    }
                }
            }
            return NONE;
        }

        private static boolean rests(int enough, int i, int j) {
            int first = firstGets(enough, i, j);
            int second = secondGets(enough, i, j);
            for (int other = 0; other <= MOST_GIFT; other++) {
                if (firstGets(enough, other, j) > first || secondGets(enough, i, other) > second) {
                    return false;
                }
            }
            return true;
        }

        private static int firstGets(int enough, int i, int j) {
            return i >= j ? gets(enough, i) : -(i / 2);
        }

        private static int secondGets(int enough, int i, int j) {
            return j > i ? gets(enough, j) : -(j / 2);
        }

        /** Of the one who brings more: the stone is lent to this one, or to nobody. */
        private static int gets(int enough, int gift) {
            return hasBit(enough, gift) ? WORTH - gift : -(gift / 2);
        }
    }

    /** Reads the text into a market of its own, so that a fault leaves the other as it was. */
    private static final class TextReader {
        private static final int END = 0, WORD = 1, NUMBER = 2, STOP = 3, STRANGE = 4;
        private static final int MARKET = 0, KEEPER = 1, MOOD = 2, BALANCE = 3, DAYS = 4;
        private static final int MOST_NUMBER = 99;

        final Market told = new Market();

        private final Row text;
        private final Row numbers = new Row(3);
        private int token;
        private int start;
        private int next;
        private int value;
        private int word;
        private int items;

        TextReader(Row text) {
            this.text = text;
        }

        /** How many items, or -10 less the fault: an item that fails stops at the token that can not stand there. */
        int readMarket() {
            told.restart();
            items = 0;
            next = 0;
            step();
            boolean fine = true;
            // Each item takes some bytes, so there are fewer of them than bytes.
            for (int i = 0; i < MOST_BYTES && fine && (items == 0 || token != END); i++) {
                fine = item();
                if (fine) {
                    carryOut();
                }
            }
            return fine ? items : BAD_AT_PLACE - start;
        }

        private boolean item() {
            word = wordTold();
            if (!wordMayStand()) {
                return false;
            }
            step();
            numbers.restart();
            for (int i = 0; i < numbersDue(); i++) {
                if (token != NUMBER || !numberMayStand(i)) {
                    return false;
                }
                numbers.add(value);
                step();
            }
            if (token != STOP) {
                return false;
            }
            step();
            return true;
        }

        private void carryOut() {
            items++;
            switch (word) {
                case KEEPER:
                    told.addKeeper(numbers.at(0), numbers.at(1), numbers.at(2));
                    break;
                case MOOD:
                    told.now.moods.put(numbers.at(0), numbers.at(1));
                    break;
                case BALANCE:
                    told.balances.add(numbers.at(0));
                    break;
                case DAYS:
                    told.passDays(numbers.at(0));
                    break;
                default:
                    break;
            }
        }

        private boolean wordMayStand() {
            switch (word) {
                case MARKET:
                    return items == 0;
                case KEEPER:
                    return items > 0 && !told.kinds.isFull();
                case BALANCE:
                    return items > 0 && !told.balances.isFull();
                default:
                    return items > 0 && word != NONE;
            }
        }

        private int numbersDue() {
            return word == MARKET ? 0 : word == KEEPER ? 3 : word == MOOD ? 2 : 1;
        }

        private boolean numberMayStand(int i) {
            switch (word) {
                case KEEPER:
                    return i == 0 ? isKind(value) : between(value, i == 1 ? 0 : 1, i == 1 ? LAST_HOUSE : MOST_NUMBER);
                case MOOD:
                    return i == 0 ? told.hasKeeper(value) : between(value, 0, MOST_MOOD);
                case BALANCE:
                    return isKind(value);
                default:
                    return between(value, 1, MOST_DAYS);
            }
        }

        private int wordTold() {
            if (isWord("market")) {
                return MARKET;
            }
            if (isWord("keeper")) {
                return KEEPER;
            }
            if (isWord("mood")) {
                return MOOD;
            }
            if (isWord("balance")) {
                return BALANCE;
            }
            return isWord("days") ? DAYS : NONE;
        }

        private boolean isWord(String name) {
            if (token != WORD || next - start != name.length()) {
                return false;
            }
            for (int i = 0; i < name.length(); i++) {
                if (text.at(start + i) != name.charAt(i)) {
                    return false;
                }
            }
            return true;
        }

        private void step() {
            while (next < text.size() && text.at(next) == ' ') {
                next++;
            }
            start = next;
            int first = text.at(start);
            if (start >= text.size()) {
                token = END;
            } else if (isLetter(first)) {
                takeLetters();
            } else if (isFigure(first)) {
                takeFigures();
            } else {
                token = first == ';' ? STOP : STRANGE;
                next++;
            }
        }

        private void takeLetters() {
            token = WORD;
            while (next < text.size() && isLetter(text.at(next))) {
                next++;
            }
        }

        /** Three figures or more are no number, whatever they would be worth. */
        private void takeFigures() {
            value = 0;
            while (next < text.size() && isFigure(text.at(next))) {
                value = next - start < 2 ? 10 * value + text.at(next) - '0' : value;
                next++;
            }
            token = next - start <= 2 ? NUMBER : STRANGE;
        }

        private static boolean isLetter(int c) {
            return c >= 'a' && c <= 'z';
        }

        private static boolean isFigure(int c) {
            return c >= '0' && c <= '9';
        }
    }
}
