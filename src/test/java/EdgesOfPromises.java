import java.math.BigInteger;

/**
 * "Promise 1" to "Promise 38" of ../shared/DOC.md: each number that is told to a call, at its first and last that are
 * allowed and just beside them; empty and full; the first calls behind a full one; each refusal with all it must leave.
 */
public final class EdgesOfPromises {
    private static final int NONE = WidowWeight.NONE;
    private static final int BAD = WidowWeight.BAD;
    private static final int NO = WidowWeight.NO;
    private static final int FULL = WidowWeight.FULL;
    private static final int NO_WAY = -10000;
    private static final int BAD_LOAD = -20000;
    private static final int NOT_SO_MANY = -5;
    private static final int BAD_AT_PLACE = -10;
    private static final int MOST = Integer.MAX_VALUE;

    private static final Twins.Start[] ALL = {Twins::bare, Twins::some, Twins::full};
    private static final Twins.Start[] PEOPLED = {Twins::some, Twins::full};

    private EdgesOfPromises() {
    }

    public static void main(String[] args) {
        aMarket();
        days();
        stones();
        whichIsOff();
        whatThereIs();
        lastOfAllCalls();
        Check.end();
    }

    private static void aMarket() {
        newObject();
        market();
        keeper();
        keeperFull();
        held();
        heldWas();
        balance();
        balanceFull();
        type();
        typeFull();
        clear();
        read();
        readRefused();
    }

    private static void days() {
        visit();
        visitLent();
        day();
        dayTogether();
        dayAtTheLast();
        undo();
        undoNone();
        of();
    }

    private static void stones() {
        then();
        thenEnds();
        off();
        offNone();
        load();
        loadEnds();
        loadNone();
        gain();
        gainEnds();
        gainNone();
        round();
        roundNotSoMany();
        gifts();
        giftsNone();
        tips();
        tipsBothPans();
    }

    private static void whichIsOff() {
        reading();
        readingBothPans();
        readingFull();
        maybe();
        maybeEmpty();
        lift();
        liftNone();
        note();
        noteFull();
        tipped();
        tippedFull();
        forget();
        forgetEmptyAndFull();
        is();
        watch();
        who();
        lay();
        buyers();
        buyersNotSoMany();
        buyersLent();
        refusals();
        refusalsEnds();
        years();
        yearsEnds();
    }

    private static void whatThereIs() {
        part();
        image();
        from();
        fromNone();
        status();
        count();
        countEmptyAndFull();
        digestEmpty();
        digestWrapsAround();
    }

    private static void due(String what, long got, long want) {
        Twins.due(what, got, want);
    }

    /** The start, with this in the text. */
    private static Twins.Start typed(Twins.Start start, String text) {
        return () -> {
            WidowWeight x = start.make();
            x.clear();
            Twins.type(x, text);
            return x;
        };
    }

    private static WidowWeight keepersOf(int kind, int... grains) {
        WidowWeight x = new WidowWeight();
        for (int g : grains) {
            x.keeper(kind, 0, g);
        }
        due("all came", x.count(0), grains.length);
        return x;
    }

    // ---- a market

    private static void newObject() {
        Twins.sentence("1 as told; nobody is there");
        for (int what = 0; what <= 9; what++) {
            due("count " + what, new WidowWeight().count(what), 0);
        }
        for (int what = 0; what <= 2; what++) {
            due("status " + what, new WidowWeight().status(what), 0);
        }
        due("above", new WidowWeight().part(0), 0);
        due("below", new WidowWeight().part(1), 1);
        due("an empty text", new WidowWeight().read(), -10);
        due("no byte", new WidowWeight().clear(), 0);
        Twins.bad(Twins::bare, "nobody", x -> x.of(0, 0));
        Twins.bad(Twins::bare, "no balance", x -> x.who(0));
        Twins.no(Twins::bare, "nothing to undo", WidowWeight::undo);
        Twins.no(Twins::bare, "no image 0", x -> x.from(0));
        Twins.no(Twins::bare, "no image 1", x -> x.from(1));
    }

    private static void market() {
        Twins.sentence("2 market, of nobody and of seven");
        Twins.asked(Twins::bare, "nobody: as it was", WidowWeight::market, 0);
        WidowWeight x = Twins.full();
        long[] were = staying(x);
        due("seven", x.market(), 7);
        due("nobody then", x.market(), 0);
        for (int what = 0; what <= 8; what++) {
            due("count " + what, x.count(what), 0);
        }
        long[] are = staying(x);
        for (int i = 0; i < were.length; i++) {
            due("the text, the fraction, the status stay, " + i, are[i], were[i]);
        }
        due("no day can be undone", x.undo(), NO);
        due("a first keeper", x.keeper(1, 11, 99), 0);
        int[] anew = {1, 11, 99, 99, 5, 0};
        for (int what = 0; what <= 5; what++) {
            due("its " + what, x.of(0, what), anew[what]);
        }
        due("a first balance", x.balance(0), 0);
        due("all kinds may be it", x.who(0), 63);
        due("all kinds may be it", x.is(0), 63);
        due("all may be lighter", x.maybe(0), 1);
        due("the text is read", x.read(), 5);
        due("image 0 stays", x.from(0), 1);
        due("its seven keepers", x.count(0), 7);
        due("image 1 stays", x.from(1), 1);
        due("its day", x.count(2), 104);
    }

    private static long[] staying(WidowWeight x) {
        return new long[] {x.count(9), x.part(0), x.part(1), x.status(0), x.status(1), x.status(2)};
    }

    private static void keeper() {
        Twins.sentence("3 keeper: BAD, ahead of FULL");
        for (Twins.Start start : ALL) {
            Twins.range(start, "kind", (x, v) -> x.keeper(v, 0, 1), 0, 5, BAD);
            Twins.range(start, "house", (x, v) -> x.keeper(0, v, 1), 0, 11, BAD);
            Twins.range(start, "grains", (x, v) -> x.keeper(0, 0, v), 1, 250, BAD);
        }
    }

    private static void keeperFull() {
        Twins.sentence("3 keeper: FULL: 7");
        WidowWeight x = new WidowWeight();
        for (int k = 0; k < 7; k++) {
            due("the number", x.keeper(0, k, 100 + k), k);
            due("how many", x.count(0), k + 1);
        }
        due("an 8th", x.keeper(0, 0, 1), FULL);
        due("a 9th", x.keeper(5, 11, 250), FULL);
        due("how many", x.count(0), 7);
        due("the 7th is as it was", x.of(6, 2), 106);
        due("there is no 8th", x.of(7, 2), BAD);
        due("counted", x.status(2), 2);
        due("a balance still comes", x.balance(0), 0);
        x.market();
        due("room again", x.keeper(0, 0, 1), 0);
        Twins.full(Twins::full, "an 8th", y -> y.keeper(0, 0, 1));
        Twins.full(Twins::full, "an 8th", y -> y.keeper(5, 11, 250));
    }

    private static void held() {
        Twins.sentence("4 held: BAD");
        Twins.keepers("keeper", (x, v) -> x.held(v, 1), BAD);
        for (Twins.Start start : PEOPLED) {
            Twins.range(start, "grains", (x, v) -> x.held(1, v), 1, 250, BAD);
        }
    }

    private static void heldWas() {
        Twins.sentence("4 held: what it was");
        WidowWeight x = keepersOf(1, 250);
        x.day(1);
        due("what it was when it came", x.held(0, 1), 250);
        due("the least", x.held(0, 250), 1);
        due("the most", x.held(0, 250), 250);
        due("refused", x.held(0, 251), BAD);
        due("refused", x.held(0, 0), BAD);
        due("as it was", x.of(0, 3), 250);
        due("what it is stays", x.of(0, 2), 249);
    }

    private static void balance() {
        Twins.sentence("5 balance: BAD, ahead of FULL");
        for (Twins.Start start : ALL) {
            Twins.range(start, "kind", (x, v) -> x.balance(v), 0, 5, BAD);
        }
    }

    private static void balanceFull() {
        Twins.sentence("5 balance: FULL: 4");
        WidowWeight x = new WidowWeight();
        for (int b = 0; b < 4; b++) {
            due("the number", x.balance(b + 2), b);
            due("how many", x.count(1), b + 1);
        }
        due("a 5th", x.balance(0), FULL);
        due("a 6th", x.balance(5), FULL);
        due("how many", x.count(1), 4);
        due("the 4th, a crossed one, is as it was", x.tips(3, 0, 0), -1);
        due("there is no 5th", x.tips(4, 0, 0), BAD);
        due("counted", x.status(2), 2);
        due("a keeper still comes", x.keeper(0, 0, 1), 0);
        x.market();
        due("room again", x.balance(0), 0);
        Twins.full(Twins::full, "a 5th", y -> y.balance(0));
        Twins.full(Twins::full, "a 5th", y -> y.balance(5));
    }

    private static void type() {
        Twins.sentence("6 type: BAD, ahead of FULL");
        for (Twins.Start start : ALL) {
            Twins.range(start, "byte", (x, v) -> x.type(v), 0, 127, BAD);
        }
        WidowWeight x = new WidowWeight();
        due("the least is one", x.type(0), 1);
        due("the greatest is one", x.type(127), 2);
        due("refused", x.type(128), BAD);
        due("refused", x.type(-1), BAD);
        due("the next one", x.type(1), 3);
    }

    private static void typeFull() {
        Twins.sentence("6 type: FULL: 150");
        WidowWeight x = new WidowWeight();
        for (int i = 1; i <= 150; i++) {
            due("how many", x.type('a'), i);
        }
        due("a 151st", x.type('a'), FULL);
        due("a 152nd", x.type(';'), FULL);
        due("how many", x.count(9), 150);
        due("counted", x.status(2), 2);
        due("cleared", x.clear(), 150);
        due("room again", x.type('a'), 1);
        Twins.full(Twins::full, "a 151st", y -> y.type(0));
        Twins.full(Twins::full, "a 151st", y -> y.type(127));
    }

    private static void clear() {
        Twins.sentence("7 clear, of none and of 150");
        Twins.asked(Twins::bare, "none: as it was", WidowWeight::clear, 0);
        WidowWeight x = Twins.full();
        due("150", x.clear(), 150);
        due("none", x.clear(), 0);
        due("none is left", x.count(9), 0);
        due("it is read as an empty one", x.read(), -10);
        due("keepers stay", x.count(0), 7);
        due("what may be undone stays", x.count(8), 8);
        x.type('m');
        due("one", x.clear(), 1);
    }

    private static void read() {
        Twins.sentence("8 read: how many items");
        due("the fewest", Twins.read(new WidowWeight(), "market;"), 1);
        String most = "market;" + "days1;".repeat(23) + " ".repeat(5);
        WidowWeight x = new WidowWeight();
        due("as many as 150 bytes can tell", Twins.read(x, most), 24);
        due("all bytes", x.count(9), 150);
        due("all days", x.count(2), 23);
    }

    private static void readRefused() {
        Twins.sentence("8 read: -10 less the fault: all stays");
        for (Twins.Start start : ALL) {
            Twins.asked(typed(start, ""), "the least place", WidowWeight::read, -10);
            Twins.asked(typed(start, "market"), "it ends too early", WidowWeight::read, -10 - 6);
            Twins.asked(typed(start, "market;days 5;keeper 0 0 1;x"), "behind fine ones", WidowWeight::read, -10 - 27);
            Twins.asked(typed(start, "market" + " ".repeat(144)), "the greatest place", WidowWeight::read, -10 - 150);
            Twins.asked(typed(start, "market;" + " ".repeat(142) + "m"), "the last byte", WidowWeight::read, -10 - 149);
        }
    }

    // ---- days

    private static void visit() {
        Twins.sentence("9 visit: BAD, ahead of NO");
        Twins.keepers("keeper", (x, v) -> x.visit(v, 0), BAD);
        for (Twins.Start start : PEOPLED) {
            Twins.range(start, "gift to one who lent", (x, v) -> x.visit(0, v), 0, 9, BAD);
            Twins.range(start, "gift", (x, v) -> x.visit(2, v), 0, 9, BAD);
        }
    }

    private static void visitLent() {
        Twins.sentence("9 visit: NO: the stone is lent");
        Twins.no(Twins::some, "the least gift", x -> x.visit(0, 0));
        Twins.no(Twins::some, "the greatest gift", x -> x.visit(0, 9));
        Twins.no(Twins::full, "the first keeper", x -> x.visit(0, 0));
        Twins.no(Twins::full, "the last keeper", x -> x.visit(6, 9));
        WidowWeight x = keepersOf(0, 5, 5);
        due("lent", x.visit(0, 0), 1);
        due("lent already", x.visit(0, 0), NO);
        due("the other one is not", x.visit(1, 0), 1);
        x.undo();
        due("not any more", x.visit(1, 0), 1);
        x.day(1);
        due("the next day", x.visit(0, 0), 1);
        WidowWeight merry = keepersOf(2, 5);
        due("not lent", merry.visit(0, 9), 0);
        due("visited again", merry.visit(0, 9), 0);
    }

    private static void day() {
        Twins.sentence("10 day: 1 .. 99, else BAD");
        for (Twins.Start start : ALL) {
            Twins.range(start, "days", (x, v) -> x.day(v), 1, 99, BAD);
        }
        WidowWeight x = new WidowWeight();
        due("nobody's stones", x.day(1), 0);
        due("one went by", x.count(2), 1);
        x.day(99);
        due("99 went by", x.count(2), 100);
        due("the most stones of the most grains", keepersOf(0, 250, 250, 250, 250, 250, 250, 250).day(99), 7 * 250);
    }

    private static void dayTogether() {
        Twins.sentence("10 day: together one that may be undone");
        WidowWeight x = keepersOf(4, 250);
        due("99 days", x.day(99), 150);
        due("one", x.count(8), 1);
        due("one day", x.day(1), 150);
        due("two", x.count(8), 2);
        due("undone", x.undo(), 99);
        due("99 undone at once", x.undo(), 0);
        due("what it is", x.of(0, 2), 250);
    }

    private static void dayAtTheLast() {
        Twins.sentence("10 day: also if none goes by; at 9999 none goes by");
        WidowWeight x = Twins.onDay(keepersOf(0, 5), 9900);
        x.day(99);
        due("just to the last", x.count(2), 9999);
        x = Twins.onDay(new WidowWeight(), 9901);
        x.keeper(5, 0, 1);
        due("98 go by: a wrapping one sees 32 of its days", x.day(99), 33);
        due("not beyond the last", x.count(2), 9999);
        due("one that may be undone", x.count(8), 1);
        x.visit(0, 9);
        due("what it is, none goes by", x.day(1), 33);
        due("none goes by", x.day(99), 33);
        due("the day", x.count(2), 9999);
        due("lent still", x.of(0, 5), 1);
        due("its mood still", x.of(0, 4), 8);
        due("they may be undone", x.count(8), 4);
        Twins.bad(() -> Twins.onDay(Twins.some(), 9999), "none", y -> y.day(0));
        Twins.bad(() -> Twins.onDay(Twins.some(), 9999), "too many", y -> y.day(100));
        due("undone", x.undo(), 9999);
        due("undone", x.undo(), 9999);
        due("lent still", x.of(0, 5), 1);
        due("the visit undone", x.undo(), 9999);
        due("not lent", x.of(0, 5), 0);
        due("the days undone", x.undo(), 9901);
    }

    private static void undo() {
        Twins.sentence("11 undo: the day then, 8 at most");
        WidowWeight x = keepersOf(2, 5);
        for (int i = 1; i <= 8; i++) {
            x.day(i);
            due("how many", x.count(8), i);
        }
        due("all eight", undoAll(x, 28, 21, 15, 10, 6, 3, 1, 0), 8);
        due("a ninth", x.undo(), NO);
        for (int i = 1; i <= 9; i++) {
            x.day(i);
        }
        due("how many of nine", x.count(8), 8);
        due("eight of nine", undoAll(x, 36, 28, 21, 15, 10, 6, 3, 1), 8);
        due("the first one is too old", x.undo(), NO);
        due("the day stays", x.count(2), 1);
        for (int i = 0; i < 20; i++) {
            x.visit(0, 0);
        }
        due("visits, too", x.count(8), 8);
        due("eight visits", undoAll(x, 1, 1, 1, 1, 1, 1, 1, 1), 8);
        due("none", x.undo(), NO);
    }

    private static int undoAll(WidowWeight x, int... days) {
        int undone = 0;
        for (int day : days) {
            due("undo " + undone, x.undo(), day);
            undone++;
            due("how many are left", x.count(8), days.length - undone);
        }
        return undone;
    }

    private static void undoNone() {
        Twins.sentence("11 undo: NO: none may be");
        Twins.no(Twins::bare, "a new object", WidowWeight::undo);
        for (Twins.Start start : PEOPLED) {
            Twins.no(behind(start, x -> x.held(2, 3)), "behind what one is held to be", WidowWeight::undo);
            Twins.no(behind(start, WidowWeight::market), "behind a new market", WidowWeight::undo);
            Twins.no(behind(start, WidowWeight::read), "behind a market that was read", WidowWeight::undo);
            Twins.no(behind(start, x -> x.from(0)), "behind an image without any", WidowWeight::undo);
        }
        Twins.no(behind(Twins::some, x -> x.keeper(0, 0, 1)), "behind a keeper", WidowWeight::undo);
        Twins.no(behind(Twins::some, x -> x.balance(0)), "behind a balance", WidowWeight::undo);
        Twins.no(behind(Twins::some, x -> x.undo() + x.undo() + x.undo()), "behind all", WidowWeight::undo);
    }

    private static Twins.Start behind(Twins.Start start, Twins.Call call) {
        return () -> {
            WidowWeight x = start.make();
            call.on(x);
            return x;
        };
    }

    private static void of() {
        Twins.sentence("12 of: BAD");
        Twins.keepers("keeper", (x, v) -> x.of(v, 0), BAD);
        for (Twins.Start start : PEOPLED) {
            Twins.range(start, "what", (x, v) -> x.of(0, v), 0, 5, BAD);
        }
        int[] first = {1, 3, 8, 9, 6, 1};
        int[] last = {5, 11, 2, 1, 5, 0};
        for (int what = 0; what <= 5; what++) {
            int w = what;
            Twins.asked(Twins::some, "the first one's " + what, x -> x.of(0, w), first[what]);
            Twins.asked(Twins::some, "the last one's " + what, x -> x.of(2, w), last[what]);
        }
    }

    // ---- stones

    private static void then() {
        Twins.sentence("13 then: BAD");
        Twins.keepers("keeper", (x, v) -> x.then(v, 0), BAD);
        for (Twins.Start start : PEOPLED) {
            Twins.range(start, "days", (x, v) -> x.then(0, v), 0, 99, BAD);
        }
    }

    private static void thenEnds() {
        Twins.sentence("13 then: behind 0 and behind 99 days");
        Twins.asked(Twins::some, "0: as it is", x -> x.then(0, 0), 8);
        Twins.asked(Twins::some, "a stone of 8 that fades, at 1 at last", x -> x.then(0, 99), 1);
        Twins.asked(Twins::some, "33 more", x -> x.then(2, 99), 35);
        WidowWeight x = keepersOf(1, 250);
        due("99", x.then(0, 99), 200);
        due("98", x.then(0, 98), 201);
        due("as days that go by tell", x.day(99), 200);
        due("98 behind one", Twins.onDay(keepersOf(1, 250), 1).then(0, 98), 200);
    }

    private static void off() {
        Twins.sentence("14 off: BAD");
        Twins.keepers("keeper", (x, v) -> x.off(v, 1), BAD);
        for (Twins.Start start : PEOPLED) {
            Twins.range(start, "by", (x, v) -> x.off(0, v), 1, 99, BAD);
        }
    }

    private static void offNone() {
        Twins.sentence("14 off: NONE");
        Twins.Start fading = () -> keepersOf(1, 250);
        Twins.asked(fading, "in 99 days", x -> x.off(0, 50), 99);
        Twins.asked(fading, "in 101 days, too late", x -> x.off(0, 51), NONE);
        Twins.Start later = () -> Twins.onDay(keepersOf(1, 250), 1);
        Twins.asked(later, "in 96 days, one having gone by", x -> x.off(0, 49), 96);
        Twins.asked(later, "in 98 days, one having gone by", x -> x.off(0, 50), 98);
        Twins.Start other = behind(behind(fading, x -> x.day(1)), x -> x.held(0, 249));
        Twins.asked(other, "in 98 days", x -> x.off(0, 49), 98);
        Twins.asked(other, "in 100 days, just too late", x -> x.off(0, 50), NONE);
        Twins.Start heavier = behind(() -> keepersOf(0, 250), x -> x.held(0, 151));
        Twins.asked(heavier, "heavier by 99", x -> x.off(0, 99), 0);
        Twins.asked(behind(heavier, x -> x.held(0, 152)), "heavier by 98", x -> x.off(0, 99), NONE);
        Twins.Start lighter = behind(() -> keepersOf(0, 1), x -> x.held(0, 100));
        Twins.asked(lighter, "lighter by 99", x -> x.off(0, 99), 0);
        Twins.asked(behind(lighter, x -> x.held(0, 99)), "lighter by 98", x -> x.off(0, 99), NONE);
        Twins.asked(() -> keepersOf(0, 1), "never", x -> x.off(0, 1), NONE);
    }

    private static void load() {
        Twins.sentence("15 load: BAD: -20000");
        for (Twins.Start start : ALL) {
            Twins.range(start, "grains", (x, v) -> x.load(v, 0, 0), 1, 999, BAD_LOAD);
            Twins.range(start, "lent", (x, v) -> x.load(1, v, 0), 0, 1, BAD_LOAD);
            Twins.range(start, "what", (x, v) -> x.load(1, 0, v), 0, 2, BAD_LOAD);
        }
    }

    private static void way(Twins.Start start, int grains, int lent, int many, int code, int truth) {
        Twins.asked(start, grains + " grains, how many", x -> x.load(grains, lent, 0), many);
        Twins.asked(start, grains + " grains, the code", x -> x.load(grains, lent, 1), code);
        Twins.asked(start, grains + " grains, in truth", x -> x.load(grains, lent, 2), truth);
    }

    /** Held to be so, being a grain each. */
    private static Twins.Start heldToBe(int... grains) {
        return () -> {
            WidowWeight x = new WidowWeight();
            for (int k = 0; k < grains.length; k++) {
                x.keeper(0, 0, 1);
                x.held(k, grains[k]);
            }
            return x;
        };
    }

    private static void loadEnds() {
        Twins.sentence("15 load: 1 and 999 grains, one stone and seven");
        way(heldToBe(1), 1, 0, 1, 2, 1);
        way(heldToBe(249, 250), 1, 0, 2, 1 + 6, 0);
        way(heldToBe(250, 249), 1, 0, 2, 2 + 3, 0);
        way(heldToBe(250, 250, 250, 249), 999, 0, 4, 2 + 6 + 18 + 54, 4);
        way(heldToBe(250, 250, 250, 250, 1), 999, 0, 5, 2 + 6 + 18 + 54 + 81, 3);
        way(heldToBe(1, 1, 1, 1, 1, 1, 1), 7, 0, 7, 2186, 7);
        way(heldToBe(1, 1, 1, 1, 1, 1, 250), 244, 0, 7, 1 + 3 + 9 + 27 + 81 + 243 + 2 * 729, -5);
        Twins.Start lent = behind(heldToBe(3, 3), x -> x.visit(1, 0));
        way(lent, 3, 0, 1, 2, 1);
        way(lent, 3, 1, 1, 6, 1);
    }

    private static void loadNone() {
        Twins.sentence("15 load: NONE: -10000");
        way(Twins::bare, 1, 0, NO_WAY, NO_WAY, NO_WAY);
        way(Twins::bare, 999, 1, NO_WAY, NO_WAY, NO_WAY);
        way(heldToBe(2), 1, 0, NO_WAY, NO_WAY, NO_WAY);
        way(heldToBe(1), 1, 1, NO_WAY, NO_WAY, NO_WAY);
        way(heldToBe(250, 250, 250, 248), 999, 0, NO_WAY, NO_WAY, NO_WAY);
        way(heldToBe(1, 1, 1, 1, 1, 1, 1), 8, 0, NO_WAY, NO_WAY, NO_WAY);
        way(Twins::full, 999, 0, NO_WAY, NO_WAY, NO_WAY);
    }

    private static void gain() {
        Twins.sentence("16 gain: BAD: -20000");
        for (Twins.Start start : ALL) {
            Twins.range(start, "grains", (x, v) -> x.gain(v, 0), 1, 999, BAD_LOAD);
            Twins.range(start, "lent", (x, v) -> x.gain(1, v), 0, 1, BAD_LOAD);
        }
    }

    private static void gainEnds() {
        Twins.sentence("16 gain: 1 and 999 grains, below 0");
        Twins.asked(heldToBe(1, 249, 250), "1 grain by one or by two", x -> x.gain(1, 0), 0);
        Twins.asked(heldToBe(250, 250, 250, 249), "999 grains", x -> x.gain(999, 0), 4);
        Twins.asked(heldToBe(1, 1, 1, 1, 1, 1, 250), "seven stones", x -> x.gain(244, 0), -5);
        Twins.Start lent = behind(heldToBe(1, 249, 250), x -> x.visit(0, 0));
        Twins.asked(lent, "those lent alone", x -> x.gain(1, 1), 1);
        Twins.asked(lent, "all", x -> x.gain(1, 0), 0);
    }

    private static void gainNone() {
        Twins.sentence("16 gain: NONE: -10000");
        Twins.asked(Twins::bare, "nobody", x -> x.gain(1, 0), NO_WAY);
        Twins.asked(Twins::bare, "nobody", x -> x.gain(999, 1), NO_WAY);
        Twins.asked(heldToBe(1), "none is lent", x -> x.gain(1, 1), NO_WAY);
        Twins.asked(heldToBe(1), "too much", x -> x.gain(2, 0), NO_WAY);
        Twins.asked(Twins::full, "too much", x -> x.gain(999, 0), NO_WAY);
    }

    private static void round() {
        Twins.sentence("17 round: BAD: -10: i below -1, too");
        Twins.bits("keepers", (x, v) -> x.round(v, -1), 1, BAD_AT_PLACE);
        for (Twins.Start start : PEOPLED) {
            Twins.range(start, "the place", (x, v) -> x.round(1, v), -1, MOST, BAD_AT_PLACE);
        }
        Twins.outside(Twins::bare, "the place, of nobody", (x, v) -> x.round(0, v), 0, BAD_AT_PLACE);
        Twins.asked(Twins::some, "one", x -> x.round(1, -1), 7);
        Twins.asked(Twins::some, "three", x -> x.round(7, -1), 15);
        Twins.asked(Twins::full, "the first alone, at house 0", x -> x.round(1, -1), 1);
        Twins.asked(Twins::full, "the last alone, across", x -> x.round(64, -1), 13);
        Twins.asked(Twins::full, "seven", x -> x.round(127, -1), 19);
    }

    private static void roundNotSoMany() {
        Twins.sentence("17 round: -5: not so many");
        Twins.asked(Twins::some, "the first of one", x -> x.round(4, 0), 2);
        Twins.asked(Twins::some, "a second of one", x -> x.round(4, 1), NOT_SO_MANY);
        Twins.asked(Twins::some, "the last of three", x -> x.round(7, 2), 2);
        Twins.asked(Twins::some, "a fourth of three", x -> x.round(7, 3), NOT_SO_MANY);
        Twins.asked(Twins::full, "the first of seven", x -> x.round(127, 0), 0);
        Twins.asked(Twins::full, "the last of seven", x -> x.round(127, 6), 6);
        Twins.asked(Twins::full, "an eighth of seven", x -> x.round(127, 7), NOT_SO_MANY);
        Twins.asked(Twins::full, "far away", x -> x.round(127, MOST), NOT_SO_MANY);
        Twins.outside(Twins::some, "BAD ahead of it", (x, v) -> x.round(v, 7), 8, BAD_AT_PLACE);
    }

    private static void gifts() {
        Twins.sentence("18 gifts: BAD");
        Twins.bits("keepers", (x, v) -> x.gifts(v), 0, BAD);
        Twins.asked(Twins::bare, "nobody", x -> x.gifts(0), 0);
        Twins.asked(Twins::full, "nobody told", x -> x.gifts(0), 0);
        Twins.asked(Twins::full, "those lent", x -> x.gifts(1 + 2 + 64), 0);
        WidowWeight x = Twins.told("market;" + "keeper0 0 1;".repeat(7) + "mood0 0;mood1 0;mood2 0;");
        due("three of mood 0", x.gifts(127), 15);
        due("the last one alone", x.gifts(64), 0);
    }

    private static void giftsNone() {
        Twins.sentence("18 gifts: NONE");
        Twins.asked(Twins::full, "a merry one", x -> x.gifts(4), NONE);
        Twins.asked(Twins::full, "a merry one among all", x -> x.gifts(127), NONE);
        Twins.asked(Twins::full, "all but the merry one: two mondays on day 105", x -> x.gifts(127 - 4), 0);
        Twins.asked(behind(Twins::full, x -> x.day(1)), "on day 106", x -> x.gifts(127 - 4), 10);
    }

    private static void tips() {
        Twins.sentence("19 tips: BAD");
        Twins.balances("balance", (x, v) -> x.tips(v, 0, 0), BAD);
        Twins.range(Twins::some, "left", (x, v) -> x.tips(0, v, 0), 0, 7, BAD);
        Twins.range(Twins::some, "right", (x, v) -> x.tips(0, 0, v), 0, 7, BAD);
        Twins.range(Twins::full, "left", (x, v) -> x.tips(3, v, 0), 0, 127, BAD);
        Twins.range(Twins::full, "right", (x, v) -> x.tips(3, 0, v), 0, 127, BAD);
        Twins.Start alone = behind(Twins::bare, x -> x.balance(2));
        Twins.range(alone, "left of no stones", (x, v) -> x.tips(0, v, 0), 0, 0, BAD);
        Twins.range(alone, "right of no stones", (x, v) -> x.tips(0, 0, v), 0, 0, BAD);
        Twins.asked(alone, "two empty pans, bent", x -> x.tips(0, 0, 0), 1);
    }

    private static void tipsBothPans() {
        Twins.sentence("19 tips: BAD: a stone on both, too");
        Twins.bad(Twins::some, "the first one", x -> x.tips(0, 1, 1));
        Twins.bad(Twins::some, "the last one", x -> x.tips(0, 7, 4));
        Twins.bad(Twins::full, "the last one", x -> x.tips(3, 64, 127));
        Twins.asked(Twins::some, "all stones, none on both: 252 to 8", x -> x.tips(0, 6, 1), 1);
        Twins.asked(Twins::some, "all stones, none on both: 8 to 252", x -> x.tips(0, 1, 6), -1);
    }

    // ---- which is off

    private static void reading() {
        Twins.sentence("20 reading: BAD, ahead of FULL");
        Twins.bits("left", (x, v) -> x.reading(v, 0, 0), 0, BAD);
        Twins.bits("right", (x, v) -> x.reading(0, v, 0), 0, BAD);
        for (Twins.Start start : ALL) {
            Twins.range(start, "tipped", (x, v) -> x.reading(0, 0, v), -1, 1, BAD);
        }
    }

    private static void readingBothPans() {
        Twins.sentence("20 reading: BAD: a stone on both, too");
        Twins.bad(Twins::some, "the first one", x -> x.reading(1, 1, 0));
        Twins.bad(Twins::some, "the last one", x -> x.reading(4, 7, 0));
        Twins.bad(Twins::full, "the last one", x -> x.reading(127, 64, 1));
        due("all stones, none on both", Twins.some().reading(5, 2, 1), 2);
    }

    private static void readingFull() {
        Twins.sentence("20 reading: FULL: 6");
        WidowWeight x = keepersOf(0, 1, 1);
        for (int i = 1; i <= 6; i++) {
            due("how many there are", x.reading(1, 2, 0), i);
        }
        due("a 7th", x.reading(1, 2, 1), FULL);
        due("an 8th", x.reading(2, 1, 0), FULL);
        due("how many", x.count(5), 6);
        due("notes still come", x.note(0, 1, 0, 1), 1);
        due("forgotten", x.forget(0), 6);
        due("room again", x.reading(1, 2, 1), 1);
        Twins.full(Twins::full, "a 7th", y -> y.reading(0, 0, 0));
        Twins.full(Twins::full, "a 7th", y -> y.reading(63, 64, -1));
    }

    private static void maybe() {
        Twins.sentence("21 maybe: BAD");
        for (Twins.Start start : ALL) {
            Twins.range(start, "what", (x, v) -> x.maybe(v), 0, 1, BAD);
        }
    }

    private static void maybeEmpty() {
        Twins.sentence("21 maybe: of nobody, of one, of seven");
        for (int what = 0; what <= 1; what++) {
            int w = what;
            Twins.asked(Twins::bare, "nobody " + what, x -> x.maybe(w), 0);
            Twins.asked(() -> keepersOf(0, 1), "one " + what, x -> x.maybe(w), 1);
            Twins.asked(() -> keepersOf(0, 250), "one of 250 " + what, x -> x.maybe(w), 1);
            Twins.asked(behind(Twins::full, x -> x.forget(0)), "seven " + what, x -> x.maybe(w), 127);
            Twins.asked(Twins::full, "none of seven " + what, x -> x.maybe(w), 0);
        }
        Twins.asked(behind(() -> keepersOf(0, 1), x -> x.reading(1, 0, 0)), "1 grain lighter", x -> x.maybe(0), 1);
        Twins.asked(behind(() -> keepersOf(0, 1), x -> x.reading(1, 0, 0)), "1 grain heavier", x -> x.maybe(1), 0);
        WidowWeight x = keepersOf(0, 250, 250, 1);
        x.reading(1, 2, 1);
        due("251 against 250", x.maybe(1), 1);
        due("250 against 249", x.maybe(0), 2);
    }

    private static void lift() {
        Twins.sentence("22 lift: i less than j, 8 i and j");
        Twins.asked(() -> keepersOf(0, 5, 5), "the first pair", WidowWeight::lift, 1);
        Twins.asked(() -> keepersOf(0, 1, 10, 30, 60, 100, 200, 200), "the last pair", WidowWeight::lift, 8 * 5 + 6);
        Twins.asked(() -> keepersOf(0, 1, 10, 30, 60, 100, 150, 200), "all alike: the first pair", WidowWeight::lift, 1);
        Twins.asked(() -> keepersOf(0, 7, 10, 7, 60, 100, 150, 7), "the first of like pairs", WidowWeight::lift, 2);
    }

    private static void liftNone() {
        Twins.sentence("22 lift: NONE: nothing may be, less than two stones");
        Twins.asked(Twins::bare, "no stone", WidowWeight::lift, NONE);
        Twins.asked(() -> keepersOf(0, 5), "one stone that may be", WidowWeight::lift, NONE);
        Twins.asked(Twins::full, "nothing may be", WidowWeight::lift, NONE);
        Twins.Start two = behind(() -> keepersOf(0, 5, 5), x -> x.reading(1, 2, 1));
        due("one lighter may be", two.make().maybe(0), 2);
        due("one heavier may be", two.make().maybe(1), 1);
        Twins.asked(two, "two stones", WidowWeight::lift, 1);
        Twins.asked(behind(two, x -> x.reading(1, 2, -1)), "two stones, nothing may be", WidowWeight::lift, NONE);
    }

    private static void note() {
        Twins.sentence("23 note: BAD, ahead of FULL");
        Twins.keepers("keeper", (x, v) -> x.note(v, 1, 0, 1), BAD);
        for (Twins.Start start : PEOPLED) {
            Twins.range(start, "was", (x, v) -> x.note(0, v, 0, 1), 1, 250, BAD);
            Twins.range(start, "the day", (x, v) -> x.note(0, 1, v, 1), 0, 99, BAD);
            Twins.range(start, "is", (x, v) -> x.note(0, 1, 0, v), 1, 250, BAD);
        }
    }

    private static void noteFull() {
        Twins.sentence("23 note: FULL: 6");
        WidowWeight x = keepersOf(0, 1, 1);
        for (int i = 1; i <= 6; i++) {
            due("how many there are", x.note(i % 2, 9, 1, 9), i);
        }
        due("a 7th", x.note(0, 9, 0, 8), FULL);
        due("an 8th", x.note(1, 9, 0, 8), FULL);
        due("how many", x.count(6), 6);
        due("it is not kept", x.is(0), 63);
        due("tipped ones still come", x.balance(0) + x.tipped(0, 1, 0, 1), 1);
        due("forgotten", x.forget(1), 6);
        due("room again", x.note(0, 9, 0, 8), 1);
        due("it is kept", x.is(0), 2);
        Twins.full(Twins::full, "a 7th", y -> y.note(0, 1, 0, 1));
        Twins.full(Twins::full, "a 7th", y -> y.note(6, 250, 99, 250));
    }

    private static void tipped() {
        Twins.sentence("24 tipped: BAD, ahead of FULL");
        Twins.balances("balance", (x, v) -> x.tipped(v, 0, 0, 0), BAD);
        for (Twins.Start start : PEOPLED) {
            Twins.range(start, "left", (x, v) -> x.tipped(0, v, 0, 0), 0, 999, BAD);
            Twins.range(start, "right", (x, v) -> x.tipped(0, 0, v, 0), 0, 999, BAD);
            Twins.range(start, "tipped", (x, v) -> x.tipped(0, 0, 0, v), -1, 1, BAD);
        }
    }

    private static void tippedFull() {
        Twins.sentence("24 tipped: FULL: 6");
        WidowWeight x = new WidowWeight();
        x.balance(0);
        for (int i = 1; i <= 6; i++) {
            due("how many there are", x.tipped(0, 0, 0, 0), i);
        }
        due("a 7th", x.tipped(0, 0, 0, 1), FULL);
        due("an 8th", x.tipped(0, 999, 999, -1), FULL);
        due("how many", x.count(7), 6);
        due("it is not kept", x.who(0), 1 + 2 + 8 + 16);
        due("readings still come", x.reading(0, 0, 0), 1);
        due("forgotten", x.forget(2), 6);
        due("room again", x.tipped(0, 0, 0, 1), 1);
        due("it is kept", x.who(0), 4);
        Twins.full(Twins::full, "a 7th", y -> y.tipped(0, 0, 0, 0));
        Twins.full(Twins::full, "a 7th", y -> y.tipped(3, 999, 999, -1));
    }

    private static void forget() {
        Twins.sentence("25 forget: BAD");
        for (Twins.Start start : ALL) {
            Twins.range(start, "what", (x, v) -> x.forget(v), 0, 2, BAD);
        }
    }

    private static void forgetEmptyAndFull() {
        Twins.sentence("25 forget, of none and of six");
        for (int what = 0; what <= 2; what++) {
            int w = what;
            Twins.asked(Twins::bare, "none: as it was " + what, x -> x.forget(w), 0);
            WidowWeight x = Twins.full();
            due("six " + what, x.forget(what), 6);
            for (int i = 0; i <= 2; i++) {
                due("left of " + i + " behind " + what, x.count(5 + i), i == what ? 0 : 6);
            }
            due("what may be undone stays", x.count(8), 8);
            due("none " + what, x.forget(what), 0);
        }
    }

    private static void is() {
        Twins.sentence("26 is: BAD");
        Twins.keepers("keeper", (x, v) -> x.is(v), BAD);
        Twins.asked(Twins::some, "a fading one's note", x -> x.is(0), 2);
        Twins.asked(Twins::some, "no note", x -> x.is(1), 63);
        Twins.asked(Twins::full, "10 behind day 0 is 9", x -> x.is(0), 2);
        Twins.asked(Twins::full, "10 behind day 5 is 10", x -> x.is(5), 63);
        Twins.asked(Twins::full, "no note", x -> x.is(6), 63);
    }

    private static void watch() {
        Twins.sentence("27 watch: NONE, BAD");
        Twins.keepers("keeper", (x, v) -> x.watch(v), BAD);
        Twins.asked(Twins::some, "one kind", x -> x.watch(0), 0);
        Twins.asked(Twins::some, "all kinds", x -> x.watch(1), 0);
        Twins.asked(behind(Twins::some, x -> x.note(0, 9, 0, 9)), "no kind", x -> x.watch(0), NONE);
        Twins.asked(behind(Twins::some, x -> x.note(2, 9, 0, 11)), "no kind", x -> x.watch(2), NONE);
    }

    private static void who() {
        Twins.sentence("28 who: BAD");
        Twins.balances("balance", (x, v) -> x.who(v), BAD);
        Twins.asked(Twins::some, "none of it", x -> x.who(0), 63);
        Twins.asked(Twins::some, "4 to 5 tipped to the right", x -> x.who(1), 1 + 32);
        Twins.asked(Twins::full, "0 to 2 to the right, 4 to 2 level", x -> x.who(0), 0);
        Twins.asked(Twins::full, "1 to 2 level, 5 to 2 to the left", x -> x.who(1), 2 + 16);
        Twins.asked(Twins::full, "3 to 2 to the right", x -> x.who(3), 8 + 32);
    }

    private static void lay() {
        Twins.sentence("29 lay: NONE, BAD");
        Twins.balances("balance", (x, v) -> x.lay(v), BAD);
        Twins.asked(Twins::some, "all kinds", x -> x.lay(0), 1);
        Twins.asked(Twins::some, "true, crossed: two empty pans", x -> x.lay(1), 0);
        Twins.asked(behind(Twins::some, x -> x.tipped(1, 999, 0, 1)), "true alone", x -> x.lay(1), 0);
        Twins.asked(behind(Twins::some, x -> x.tipped(1, 999, 0, 0)), "no kind", x -> x.lay(1), NONE);
    }

    private static void buyers() {
        Twins.sentence("30 buyers: BAD: -10: k below -1, too");
        Twins.keepers("keeper", (x, v) -> x.buyers(v, -1), BAD_AT_PLACE);
        Twins.range(Twins::some, "the place", (x, v) -> x.buyers(1, v), -1, MOST, BAD_AT_PLACE);
        Twins.range(Twins::full, "the place", (x, v) -> x.buyers(2, v), -1, MOST, BAD_AT_PLACE);
    }

    private static void buyersNotSoMany() {
        Twins.sentence("30 buyers: -5: not so many");
        Twins.asked(Twins::full, "how many", x -> x.buyers(2, NONE), 4);
        int[] pairs = {0, 1, 10, 11, NOT_SO_MANY, NOT_SO_MANY};
        for (int k = 0; k < pairs.length; k++) {
            int kk = k;
            Twins.asked(Twins::full, "pair " + k, x -> x.buyers(2, kk), pairs[k]);
        }
        Twins.asked(Twins::full, "far away", x -> x.buyers(2, MOST), NOT_SO_MANY);
        Twins.asked(Twins::full, "none rests", x -> x.buyers(3, NONE), 0);
        Twins.asked(Twins::full, "the first of none", x -> x.buyers(3, 0), NOT_SO_MANY);
        Twins.asked(Twins::full, "far away of none", x -> x.buyers(3, MOST), NOT_SO_MANY);
    }

    private static void buyersLent() {
        Twins.sentence("30 buyers: NO: the stone is lent");
        Twins.no(Twins::some, "how many", x -> x.buyers(0, NONE));
        Twins.no(Twins::some, "the first", x -> x.buyers(0, 0));
        Twins.no(Twins::full, "far away", x -> x.buyers(6, MOST));
        Twins.outside(Twins::some, "BAD ahead of NO", (x, v) -> x.buyers(0, v), -2, BAD_AT_PLACE);
    }

    private static void refusals() {
        Twins.sentence("31 refusals: BAD");
        Twins.bits("keepers", (x, v) -> x.refusals(v, 0, 0), 0, BAD);
        for (Twins.Start start : ALL) {
            Twins.range(start, "gift", (x, v) -> x.refusals(0, v, 0), 0, 9, BAD);
            Twins.range(start, "of ten", (x, v) -> x.refusals(0, 0, v), 0, 10, BAD);
        }
    }

    private static void chance(WidowWeight x, int keepers, int gift, int c, long above, long below) {
        due("told " + keepers + " " + gift + " " + c, x.refusals(keepers, gift, c), 1);
        due("above " + keepers + " " + gift + " " + c, x.part(0), above);
        due("below " + keepers + " " + gift + " " + c, x.part(1), below);
    }

    private static void refusalsEnds() {
        Twins.sentence("31 refusals: the fraction at its ends");
        chance(new WidowWeight(), 0, 0, 10, 1, 1);
        WidowWeight x = keepersOf(0, 1, 1, 1, 1, 1, 1, 1);
        chance(x, 127, 0, 0, 1, 1);
        chance(x, 127, 0, 10, 0, 1);
        chance(x, 127, 0, 1, 4782969, 10000000);
        chance(x, 127, 9, 9, 1, 10000000);
        chance(x, 127, 9, 5, 1, 128);
        chance(x, 127, 9, 8, 1, 78125);
        chance(x, 127, 9, 4, 2187, 78125);
        chance(x, 1, 0, 9, 1, 10);
        chance(x, 0, 9, 9, 1, 1);
        for (int k = 0; k < 6; k++) {
            x.visit(k, 0);
        }
        chance(x, 127, 0, 9, 1, 10);
        x.visit(6, 0);
        chance(x, 127, 0, 10, 1, 1);
        due("nobody has lent by it", x.count(3), 7);
    }

    private static void years() {
        Twins.sentence("32 years: BAD");
        for (Twins.Start start : ALL) {
            Twins.range(start, "seed", (x, v) -> x.years(v, 60), 0, 999999, BAD);
            Twins.range(start, "days", (x, v) -> x.years(999999, v), 0, 60, BAD);
        }
    }

    private static void yearsEnds() {
        Twins.sentence("32 years: seeds 0 and 999999, 0 and 60 days");
        Twins.asked(Twins::bare, "nobody", x -> x.years(999999, 60), 0);
        WidowWeight x = keepersOf(0, 1, 1, 1, 1, 1, 1, 1);
        due("no day", x.years(999999, 0), 0);
        due("one day", x.years(0, 1), 1);
        due("60 days of seven plain ones", x.years(0, 60), 60);
        due("60 days of seven plain ones", x.years(999999, 60), 60);
        WidowWeight one = keepersOf(0, 1);
        for (int seed : new int[] {0, 1, 999998, 999999}) {
            for (int n = 0; n <= 60; n += 1 + n / 5 * 4) {
                int nn = n;
                due("keeper 0 alone, seed " + seed + ", days " + n, one.years(seed, nn), visitsOfTheFirst(seed, nn));
            }
            due("keeper 0 alone, 60 days", one.years(seed, 60), visitsOfTheFirst(seed, 60));
        }
        due("the day stays", one.count(2), 0);
    }

    /** A plain one of mood 5 lends at each visit: so many times X tells keeper 0, by numbers that never wrap around. */
    private static int visitsOfTheFirst(int seed, int n) {
        BigInteger x = BigInteger.valueOf(seed);
        int visits = 0;
        for (int i = 0; i < n; i++) {
            x = x.multiply(BigInteger.valueOf(1103515245)).add(BigInteger.valueOf(12345))
                .mod(BigInteger.valueOf(2147483648L));
            visits += x.divide(BigInteger.valueOf(65536)).mod(BigInteger.valueOf(7)).signum() == 0 ? 1 : 0;
        }
        return visits;
    }

    // ---- what there is

    private static void part() {
        Twins.sentence("33 part: BAD");
        for (Twins.Start start : ALL) {
            Twins.range(start, "what", (x, v) -> x.part(v), 0, 1, BAD);
        }
        Twins.asked(Twins::bare, "above at first", x -> x.part(0), 0);
        Twins.asked(Twins::bare, "below at first", x -> x.part(1), 1);
        Twins.asked(Twins::some, "above", x -> x.part(0), 49);
        Twins.asked(Twins::some, "below", x -> x.part(1), 100);
    }

    private static void image() {
        Twins.sentence("34 image: BAD");
        for (Twins.Start start : ALL) {
            Twins.range(start, "image", (x, v) -> x.image(v), 0, 1, BAD);
        }
        due("kept", new WidowWeight().image(0), 1);
        due("kept", new WidowWeight().image(1), 1);
        due("kept again", Twins.full().image(1), 1);
    }

    private static void from() {
        Twins.sentence("35 from: BAD");
        for (Twins.Start start : ALL) {
            Twins.range(start, "image", (x, v) -> x.from(v), 0, 1, BAD);
        }
        due("it goes on", Twins.full().from(0), 1);
        due("it goes on", Twins.full().from(1), 1);
        WidowWeight x = Twins.full();
        long digest = x.digest();
        x.image(0);
        Twins.asked(behind(Twins::full, y -> y.image(0)), "from what is: as it was", y -> y.from(0), 1);
        x.market();
        x.from(0);
        due("full as it was", x.digest(), digest);
        due("full again", x.keeper(0, 0, 1), FULL);
        due("all eight may be undone", undoAll(x, 105, 105, 105, 105, 104, 104, 101, 2), 8);
    }

    private static void fromNone() {
        Twins.sentence("35 from: NO: none was kept");
        Twins.no(Twins::bare, "image 0", x -> x.from(0));
        Twins.no(Twins::bare, "image 1", x -> x.from(1));
        Twins.no(Twins::some, "image 1, where 0 was kept", x -> x.from(1));
        Twins.no(behind(Twins::bare, x -> x.image(1)), "image 0, where 1 was kept", x -> x.from(0));
        WidowWeight x = new WidowWeight();
        x.image(1);
        due("an image of nobody is one", x.from(1), 1);
    }

    private static void status() {
        Twins.sentence("36 status: -1: another what, counts as BAD");
        for (Twins.Start start : ALL) {
            Twins.range(start, "what", (x, v) -> x.status(v), 0, 2, -1);
        }
        WidowWeight x = new WidowWeight();
        for (int i = 0; i < 100; i++) {
            due("another", x.status(3), -1);
        }
        due("all counted", x.status(0), 100);
        due("not as NO", x.status(1), 0);
        due("not as FULL", x.status(2), 0);
    }

    private static void count() {
        Twins.sentence("37 count: BAD");
        for (Twins.Start start : ALL) {
            Twins.range(start, "what", (x, v) -> x.count(v), 0, 9, BAD);
        }
    }

    private static void countEmptyAndFull() {
        Twins.sentence("37 count, of nothing and of all");
        int[] full = {7, 4, 105, 3, 10 + 1 + 30 + 40 + 1 + 95 + 70, 6, 6, 6, 8, 150};
        for (int what = 0; what <= 9; what++) {
            int w = what;
            Twins.asked(Twins::bare, "nothing " + what, x -> x.count(w), 0);
            Twins.asked(Twins::full, "all " + what, x -> x.count(w), full[what]);
        }
        WidowWeight x = Twins.onDay(keepersOf(0, 250, 250, 250, 250, 250, 250, 250), 9999);
        for (int k = 0; k < 7; k++) {
            x.visit(k, 9);
        }
        due("the last day", x.count(2), 9999);
        due("all are lent", x.count(3), 7);
        due("the most grains", x.count(4), 1750);
    }

    private static void digestEmpty() {
        Twins.sentence("38 digest, of nothing");
        due("only the fraction", new WidowWeight().digest(), mixed(0, 0, 0, 0, 0, 0, 0, 0, 0, 0, 0, 1));
        Twins.asked(Twins::bare, "asked: as it was", WidowWeight::digest, mixed(0, 0, 0, 0, 0, 0, 0, 0, 0, 0, 0, 1));
    }

    private static void digestWrapsAround() {
        Twins.sentence("38 digest, of all: it wraps around");
        long[] due = {
            7, 4, 105, 3, 247, 6, 6, 6, 8, 150,
            0, 0, 10, 10, 8, 1, 1, 1, 1, 20, 8, 1, 2, 2, 30, 30, 4, 0, 3, 3, 40, 40, 5, 0,
            4, 4, 1, 50, 5, 0, 5, 5, 95, 60, 5, 0, 0, 6, 70, 70, 5, 1,
            1, 2, 3, 4,
            1, 64, -1, 2, 64, 0, 4, 64, 1, 8, 64, -1, 16, 64, 0, 32, 64, 1,
            0, 10, 0, 9, 1, 10, 1, 10, 2, 10, 2, 9, 3, 10, 3, 10, 4, 10, 4, 9, 5, 10, 5, 10,
            0, 0, 2, -1, 1, 1, 2, 0, 2, 2, 2, 1, 3, 3, 2, -1, 0, 4, 2, 0, 1, 5, 2, 1,
            1, 10};
        Twins.asked(Twins::full, "all", WidowWeight::digest, mixed(due));
    }

    /** By numbers without an end, cut to 64 bits at last. */
    private static long mixed(long... all) {
        BigInteger h = BigInteger.valueOf(1481);
        for (long v : all) {
            h = h.multiply(BigInteger.valueOf(31)).add(BigInteger.valueOf(v));
        }
        return h.longValue();
    }

    private static void lastOfAllCalls() {
        Twins.sentence("an object is used for at most 512 calls");
        WidowWeight days = new WidowWeight();
        for (int i = 1; i < 512; i++) {
            days.day(i % 2 == 0 ? 20 : 19);
        }
        due("the 512th call", days.count(2), 256 * 19 + 255 * 20);
        WidowWeight refused = new WidowWeight();
        for (int i = 1; i < 512; i++) {
            refused.keeper(6, 12, 0);
        }
        due("the 512th call", refused.status(0), 511);
        WidowWeight dear = keepersOf(0, 1, 3, 9, 27, 81, 243, 250);
        for (int i = 9; i < 512; i++) {
            due("a dear call", i % 2 == 0 ? dear.gain(364, 0) : dear.round(127, -1), i % 2 == 0 ? 364 : 7);
        }
        due("the 512th call", dear.load(364, 0, 0), 5);
    }
}
