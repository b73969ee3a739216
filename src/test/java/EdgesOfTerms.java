/**
 * "Terms" of ../shared/DOC.md, sentence by sentence: the last that is so and the first that is not, on both sides.
 * What each call allows is in EdgesOfPromises.
 */
public final class EdgesOfTerms {
    private static final int NONE = WidowWeight.NONE;
    private static final int BAD = WidowWeight.BAD;
    private static final int NO = WidowWeight.NO;
    private static final int FULL = WidowWeight.FULL;
    private static final int NEVER = 10;

    private static final int PLAIN = 0, FADING = 1, MERRY = 2, MONDAY = 3, OLD = 4, WRAPPING = 5;
    private static final int TRUE = 0, STIFF = 1, BENT = 2, TURNING = 3, STUCK = 4, CROSSED = 5;
    private static final int[] BY_MOOD = {5, 4, 3, 2, 1, 0, 0, 0, 0, 0};
    private static final int[] BY_GIFT_ALONE = {5, 5, 5, 5, 5, 5, 5, 5, 5, 5};
    private static final int[] NEVER_AT_ALL = {10, 10, 10, 10, 10, 10, 10, 10, 10, 10};

    private EdgesOfTerms() {
    }

    public static void main(String[] args) {
        numbers();
        kindsOfKeepers();
        kindsOfBalances();
        visitsAndDays();
        theText();
        stones();
        whichIsOff();
        undoing();
        whatThereIs();
        Check.end();
    }

    private static void numbers() {
        housesToldBack();
        grainsToldBack();
        stonesFrom1To250();
        heldThatAtFirst();
        moodAtFirst();
        daysFrom0To9999();
        mondays();
        noneIsLentAtFirst();
        balancesAsTheyCome();
    }

    private static void kindsOfKeepers() {
        plain();
        fading();
        merry();
        monday();
        old();
        wrapping();
    }

    private static void kindsOfBalances() {
        trueOne();
        stiff();
        bent();
        turning();
        stuck();
        crossed();
    }

    private static void visitsAndDays() {
        aThirdOfTheGift();
        moodNineAtMost();
        moodZeroAtLeast();
        moodsByADay();
        noneIsLentBehindADay();
        theDayIsOneMore();
    }

    private static void theText() {
        bytesOfTheText();
        marketOnceFirstOfAll();
        eachEndedByAStop();
        keeperItem();
        sevenKeepersOfTheText();
        moodItem();
        balanceItem();
        fourBalancesOfTheText();
        daysItem();
        wordsOfLetters();
        figures();
        blanks();
        bytesThatBeginNone();
        endsTooEarly();
        takesThePlace();
    }

    private static void stones() {
        thenBeyondTheLastDay();
        wrappingFromEachDay();
        fewestStonesLeastCode();
        gainOfAllWays();
        theShorterWayRound();
        theFirstSuchRow();
        leastGifts();
    }

    private static void whichIsOff() {
        offByJustOne();
        notesAtTheirEnds();
        watchFromDayZero();
        laidGrains();
        liftsBothWays();
        pairsThatRest();
        giftsAndKeepersOfYears();
        yearsBeyondTheLastDay();
    }

    private static void undoing() {
        whatIsUndone();
        whatIsNotUndone();
        refusedOnesAreNotUndone();
        noneMayBeBehind();
    }

    private static void whatThereIs() {
        imagesKeep();
        imagesDoNotKeep();
        imagesStayApart();
        theFraction();
        statusCounts();
        badAheadOfNoAheadOfFull();
    }

    private static void due(String what, long got, long want) {
        Twins.due(what, got, want);
    }

    private static WidowWeight one(int kind, int grains) {
        WidowWeight x = new WidowWeight();
        due("a keeper", x.keeper(kind, 0, grains), 0);
        return x;
    }

    // ---- numbers

    private static void housesToldBack() {
        Twins.sentence("a HOUSE (0 .. 11)");
        for (int house = 0; house <= 11; house++) {
            WidowWeight x = new WidowWeight();
            due("it comes", x.keeper(0, house, 1), 0);
            due("its house", x.of(0, 1), house);
        }
    }

    private static void grainsToldBack() {
        Twins.sentence("what the STONE IS (1 .. 250 grains)");
        for (int g = 1; g <= 250; g++) {
            WidowWeight x = one(g % 6, g);
            due("what it is", x.of(0, 2), g);
            due("its kind", x.of(0, 0), g % 6);
        }
    }

    private static void stonesFrom1To250() {
        Twins.sentence("what the STONE IS (1 .. 250 grains), behind days, too");
        int[][] due = {{FADING, 2, 1}, {FADING, 1, 1}, {OLD, 3, 1}, {OLD, 2, 1}, {OLD, 1, 1}, {WRAPPING, 249, 250},
            {WRAPPING, 250, 250}};
        for (int[] d : due) {
            WidowWeight x = one(d[0], d[1]);
            due("behind a day: " + d[0] + " of " + d[1], x.day(1), d[2]);
            due("behind 99 more", x.day(99), d[2]);
            due("in 99 days", x.then(0, 99), d[2]);
            due("never off by 3", x.off(0, 3), NONE);
        }
        WidowWeight x = Twins.told("market;keeper 1 0 1;keeper 4 0 2;keeper 5 0 99;days 99;");
        due("told by a text", x.of(0, 2), 1);
        due("told by a text", x.of(1, 2), 1);
        due("told by a text", x.of(2, 2), 132);
    }

    private static void heldThatAtFirst() {
        Twins.sentence("what it is HELD to be (that at first)");
        for (int g : new int[] {1, 2, 249, 250}) {
            WidowWeight x = one(FADING, g);
            due("at first", x.of(0, 3), g);
            x.day(99);
            due("it stays", x.of(0, 3), g);
        }
        WidowWeight x = Twins.told("market;keeper 4 0 1;keeper 4 0 99;days 99;");
        due("told by a text", x.of(0, 3), 1);
        due("told by a text", x.of(1, 3), 99);
    }

    private static void moodAtFirst() {
        Twins.sentence("a MOOD (0 .. 9; 5 at first)");
        WidowWeight x = one(PLAIN, 1);
        due("at first", x.of(0, 4), 5);
        x.visit(0, 9);
        x.day(3);
        x.keeper(MERRY, 0, 1);
        due("of one who comes later", x.of(1, 4), 5);
        due("of the other one", x.of(0, 4), 5);
        WidowWeight y = Twins.told("market;keeper 0 0 1;days 9;keeper 0 0 1;");
        due("told by a text", y.of(0, 4), 5);
        due("told by a text", y.of(1, 4), 5);
    }

    private static void daysFrom0To9999() {
        Twins.sentence("DAYS have numbers, 0 at first (9999 at most)");
        WidowWeight x = one(FADING, 250);
        due("at first", x.count(2), 0);
        x.day(1);
        due("one behind it", x.count(2), 1);
        Twins.onDay(x, 9998);
        x.held(0, 1);
        x.day(1);
        due("the last", x.count(2), 9999);
        x.day(1);
        due("no other one", x.count(2), 9999);
        x.day(99);
        due("no other one", x.count(2), 9999);
        due("back", x.undo() + x.undo(), 2 * 9999);
        due("back ahead of the last", x.undo(), 9998);
        x.day(2);
        due("the last again", x.count(2), 9999);
    }

    private static void mondays() {
        Twins.sentence("one that 7 divides is a MONDAY");
        int[] days = {0, 1, 2, 3, 4, 5, 6, 7, 8, 13, 14, 15, 48, 49, 50, 9995, 9996, 9997, 9998, 9999};
        WidowWeight x = one(MONDAY, 1);
        for (int day : days) {
            Twins.onDay(x, day);
            x.image(0);
            due("a gift of 4 on day " + day, x.visit(0, 4), day % 7 == 0 ? 1 : 0);
            x.from(0);
        }
    }

    private static void noneIsLentAtFirst() {
        Twins.sentence("LENT STONES (bits; none at first)");
        due("nobody's", new WidowWeight().count(3), 0);
        WidowWeight x = one(PLAIN, 1);
        due("not this one", x.of(0, 5), 0);
        x.visit(0, 0);
        x.keeper(PLAIN, 0, 1);
        due("not the one who came behind", x.of(1, 5), 0);
        due("this one still", x.of(0, 5), 1);
        due("one", x.count(3), 1);
        due("none of a text", Twins.read(x, "market;keeper 0 0 1;keeper 0 0 1;"), 3);
        due("none of a text", x.count(3), 0);
    }

    private static void balancesAsTheyCome() {
        Twins.sentence("BALANCES 0 .. 3, as they come: a KIND");
        WidowWeight x = new WidowWeight();
        int[] kinds = {CROSSED, TRUE, BENT, STUCK};
        int[] empty = {-1, 0, 1, 0};
        for (int b = 0; b < 4; b++) {
            due("the number", x.balance(kinds[b]), b);
        }
        for (int b = 0; b < 4; b++) {
            due("two empty pans of " + b, x.tips(b, 0, 0), empty[b]);
        }
    }

    // ---- kinds of keepers

    /** By each mood the least gift for which such a one lends on that day: 1 less is too little. */
    private static void lends(int kind, int day, int[] least) {
        for (int mood = 0; mood <= 9; mood++) {
            String days = day == 0 ? "" : "days " + day + ";";
            WidowWeight x = Twins.told("market;" + days + "keeper " + kind + " 0 5;mood 0 " + mood + ";");
            String who = "kind " + kind + " on day " + day + " by mood " + mood;
            for (int gift = 0; gift <= 9; gift++) {
                int lent = gift >= least[mood] ? 1 : 0;
                due(who + ", gift " + gift, x.visit(0, gift), lent);
                due(who + ", gift " + gift + ", undone", x.undo(), day);
                x.refusals(1, gift, 0);
                due(who + ", gift " + gift + ", surely", x.part(0), lent);
            }
            due(who + ", the least gift", x.gifts(1), least[mood] == NEVER ? NONE : least[mood]);
            due(who + ", pairs that rest", x.buyers(0, NONE), least[mood] == NEVER ? 4 : 0);
        }
    }

    /** A stone of so many grains is this behind that day, however it is asked. */
    private static void becomes(int kind, int day, int from, int to) {
        WidowWeight x = Twins.onDay(new WidowWeight(), day);
        x.keeper(kind, 0, from);
        String who = "kind " + kind + " of " + from + " behind day " + day;
        due(who + ", then", x.then(0, 1), to);
        due(who + ", off by what it changes", x.off(0, Math.max(1, Math.abs(to - from))) == 1 ? 1 : 0, to == from ? 0 : 1);
        if (day <= 99) {
            for (int h = Math.max(1, to - 1); h <= Math.min(250, to + 1); h++) {
                x.note(0, from, day, h);
                due(who + ", may be noted as " + h, x.is(0) >> kind & 1, h == to ? 1 : 0);
                x.forget(1);
            }
        }
        if (day < 9999) {
            due(who + ", when the day goes by", x.day(1), to);
        }
    }

    private static void stays(int kind, int day) {
        for (int g : new int[] {1, 2, 3, 249, 250}) {
            becomes(kind, day, g, g);
        }
    }

    private static void plain() {
        Twins.sentence("0 PLAIN: g; m and f together are 5 or more");
        for (int day : new int[] {0, 1, 2, 3, 6, 7}) {
            stays(PLAIN, day);
            lends(PLAIN, day, BY_MOOD);
        }
    }

    private static void fading() {
        Twins.sentence("1 FADING: 1 less on days of an even number (1 at least); as PLAIN");
        for (int day : new int[] {0, 2, 4, 98, 9998}) {
            becomes(FADING, day, 250, 249);
            becomes(FADING, day, 3, 2);
            becomes(FADING, day, 2, 1);
            becomes(FADING, day, 1, 1);
        }
        for (int day : new int[] {1, 3, 5, 99, 9997, 9999}) {
            stays(FADING, day);
        }
        for (int day : new int[] {0, 1, 2, 7}) {
            lends(FADING, day, BY_MOOD);
        }
    }

    private static void merry() {
        Twins.sentence("2 MERRY: as PLAIN; never");
        for (int day : new int[] {0, 1, 2, 3, 6, 7, 14}) {
            stays(MERRY, day);
            lends(MERRY, day, NEVER_AT_ALL);
        }
    }

    private static void monday() {
        Twins.sentence("3 MONDAY: as PLAIN; as PLAIN, if it is a MONDAY or f is 5 or more, else not");
        for (int day : new int[] {0, 1, 2, 3, 6, 7}) {
            stays(MONDAY, day);
        }
        for (int day : new int[] {0, 7, 14, 98}) {
            lends(MONDAY, day, BY_MOOD);
        }
        for (int day : new int[] {1, 6, 8, 13, 99}) {
            lends(MONDAY, day, BY_GIFT_ALONE);
        }
    }

    private static void old() {
        Twins.sentence("4 OLD: FADING of what FADING tells; as FADING, or m is 8 or more");
        for (int day : new int[] {0, 2, 98, 9998}) {
            becomes(OLD, day, 250, 248);
            becomes(OLD, day, 4, 2);
            becomes(OLD, day, 3, 1);
            becomes(OLD, day, 2, 1);
            becomes(OLD, day, 1, 1);
        }
        for (int day : new int[] {1, 3, 99, 9997, 9999}) {
            stays(OLD, day);
        }
        for (int day : new int[] {0, 1, 6, 7}) {
            lends(OLD, day, BY_MOOD);
        }
    }

    private static void wrapping() {
        Twins.sentence("5 WRAPPING: MONDAY and 1 on days that leave 0 by 3 (250 at most), else as MONDAY; as MONDAY");
        for (int day : new int[] {0, 3, 6, 99, 9996, 9999}) {
            becomes(WRAPPING, day, 1, 2);
            becomes(WRAPPING, day, 248, 249);
            becomes(WRAPPING, day, 249, 250);
            becomes(WRAPPING, day, 250, 250);
        }
        for (int day : new int[] {1, 2, 4, 5, 98, 9997, 9998}) {
            stays(WRAPPING, day);
        }
        for (int day : new int[] {0, 7, 21, 98}) {
            lends(WRAPPING, day, BY_MOOD);
        }
        for (int day : new int[] {1, 3, 6, 8, 99}) {
            lends(WRAPPING, day, BY_GIFT_ALONE);
        }
    }

    // ---- kinds of balances

    /** It tips so with l grains on the left and r on the right: as it was told, and with stones (0: an empty pan). */
    private static void tip(int kind, int l, int r, int due) {
        WidowWeight x = new WidowWeight();
        x.balance((kind + 1) % 6);
        x.balance(kind);
        String how = "kind " + kind + ", " + l + " and " + r;
        for (int t = -1; t <= 1; t++) {
            due(how + " tipped " + t, x.tipped(1, l, r, t), 1);
            due(how + " tipped " + t + ", may be it", x.who(1) >> kind & 1, t == due ? 1 : 0);
            due(how + " tipped " + t + ", of the other one", x.who(0), 63);
            x.forget(2);
        }
        if (l <= 250 && r <= 250) {
            int left = l == 0 ? 0 : 1 << x.keeper(0, 0, l);
            int right = r == 0 ? 0 : 1 << x.keeper(0, 0, r);
            due(how + ", by stones", x.tips(1, left, right), due);
        }
    }

    private static void trueOne() {
        Twins.sentence("0 TRUE: to where there is more");
        tip(TRUE, 0, 0, 0);
        tip(TRUE, 1, 0, 1);
        tip(TRUE, 0, 1, -1);
        tip(TRUE, 250, 249, 1);
        tip(TRUE, 249, 250, -1);
        tip(TRUE, 250, 250, 0);
        tip(TRUE, 999, 999, 0);
        tip(TRUE, 999, 998, 1);
        tip(TRUE, 0, 999, -1);
    }

    private static void stiff() {
        Twins.sentence("1 STIFF: level, if they are unlike by less than 3, else as TRUE");
        tip(STIFF, 0, 0, 0);
        tip(STIFF, 2, 0, 0);
        tip(STIFF, 3, 0, 1);
        tip(STIFF, 0, 2, 0);
        tip(STIFF, 0, 3, -1);
        tip(STIFF, 250, 248, 0);
        tip(STIFF, 250, 247, 1);
        tip(STIFF, 248, 250, 0);
        tip(STIFF, 247, 250, -1);
        tip(STIFF, 999, 997, 0);
        tip(STIFF, 999, 996, 1);
    }

    private static void bent() {
        Twins.sentence("2 BENT: as TRUE, as if there were 2 more on the left");
        tip(BENT, 0, 0, 1);
        tip(BENT, 0, 1, 1);
        tip(BENT, 0, 2, 0);
        tip(BENT, 0, 3, -1);
        tip(BENT, 1, 0, 1);
        tip(BENT, 247, 249, 0);
        tip(BENT, 247, 250, -1);
        tip(BENT, 248, 249, 1);
        tip(BENT, 999, 999, 1);
        tip(BENT, 997, 999, 0);
    }

    private static void turning() {
        Twins.sentence("3 TURNING: the other way than TRUE, if both together are an odd number, else as TRUE");
        tip(TURNING, 0, 0, 0);
        tip(TURNING, 1, 0, -1);
        tip(TURNING, 0, 1, 1);
        tip(TURNING, 2, 0, 1);
        tip(TURNING, 0, 2, -1);
        tip(TURNING, 1, 1, 0);
        tip(TURNING, 3, 1, 1);
        tip(TURNING, 3, 2, -1);
        tip(TURNING, 2, 3, 1);
        tip(TURNING, 999, 998, -1);
        tip(TURNING, 999, 997, 1);
    }

    private static void stuck() {
        Twins.sentence("4 STUCK: as STIFF, but level, if the right is empty");
        tip(STUCK, 0, 0, 0);
        tip(STUCK, 3, 0, 0);
        tip(STUCK, 250, 0, 0);
        tip(STUCK, 999, 0, 0);
        tip(STUCK, 4, 1, 1);
        tip(STUCK, 3, 1, 0);
        tip(STUCK, 0, 3, -1);
        tip(STUCK, 0, 2, 0);
        tip(STUCK, 1, 4, -1);
        tip(STUCK, 2, 4, 0);
    }

    private static void crossed() {
        Twins.sentence("5 CROSSED: the other way than BENT");
        tip(CROSSED, 0, 0, -1);
        tip(CROSSED, 0, 1, -1);
        tip(CROSSED, 0, 2, 0);
        tip(CROSSED, 0, 3, 1);
        tip(CROSSED, 1, 0, -1);
        tip(CROSSED, 999, 999, -1);
        tip(CROSSED, 996, 999, 1);
    }

    // ---- visits and days

    private static void aThirdOfTheGift() {
        Twins.sentence("MOOD is a third (cut) of the GIFT more if so");
        int[] more = {0, 0, 0, 1, 1, 1, 2, 2, 2, 3};
        for (int gift = 0; gift <= 9; gift++) {
            WidowWeight x = one(PLAIN, 1);
            due("lent for " + gift, x.visit(0, gift), 1);
            due("the mood behind a gift of " + gift, x.of(0, 4), 5 + more[gift]);
        }
    }

    private static void moodNineAtMost() {
        Twins.sentence("MOOD is more (9 at most)");
        int[][] due = {{6, 9, 9}, {7, 6, 9}, {7, 9, 9}, {8, 3, 9}, {8, 2, 8}, {8, 6, 9}, {8, 9, 9}, {9, 0, 9}, {9, 3, 9}, {9, 9, 9}};
        for (int[] d : due) {
            WidowWeight x = Twins.told("market;keeper 0 0 1;mood 0 " + d[0] + ";");
            due("lent", x.visit(0, d[1]), 1);
            due("mood " + d[0] + " behind a gift of " + d[1], x.of(0, 4), d[2]);
        }
    }

    private static void moodZeroAtLeast() {
        Twins.sentence("MOOD is 1 less (0 at least), if not");
        for (int mood = 0; mood <= 9; mood++) {
            WidowWeight x = Twins.told("market;keeper 2 0 1;mood 0 " + mood + ";");
            due("not lent", x.visit(0, 9), 0);
            due("behind mood " + mood, x.of(0, 4), mood == 0 ? 0 : mood - 1);
        }
        WidowWeight x = Twins.told("market;keeper 0 0 1;mood 0 0;");
        due("not lent for 4", x.visit(0, 4), 0);
        due("0 still", x.of(0, 4), 0);
        due("lent for 5", x.visit(0, 5), 1);
        due("1 more", x.of(0, 4), 1);
    }

    private static void moodsByADay() {
        Twins.sentence("each MOOD that is above 5 is 1 less, each below 5 is 1 more");
        int[] behind = {1, 2, 3, 4, 5, 5, 5, 6, 7, 8};
        for (int mood = 0; mood <= 9; mood++) {
            WidowWeight x = Twins.told("market;keeper 0 0 1;mood 0 " + mood + ";");
            x.day(1);
            due("mood " + mood, x.of(0, 4), behind[mood]);
            x.day(99);
            due("mood " + mood + " behind many", x.of(0, 4), 5);
            x.undo();
            x.day(3);
            due("mood " + mood + " behind four", x.of(0, 4), mood == 0 ? 4 : mood > 5 ? Math.max(5, mood - 4) : 5);
        }
    }

    private static void noneIsLentBehindADay() {
        Twins.sentence("no STONE is LENT; the DAY is one more");
        WidowWeight x = Twins.told("market;" + "keeper0 0 1;".repeat(7));
        for (int k = 0; k < 7; k++) {
            due("lent", x.visit(k, 0), 1);
            due("how many", x.count(3), k + 1);
        }
        x.day(1);
        due("none", x.count(3), 0);
        for (int k = 0; k < 7; k++) {
            due("none", x.of(k, 5), 0);
        }
        x.undo();
        due("all again", x.count(3), 7);
    }

    private static void theDayIsOneMore() {
        Twins.sentence("each STONE is what it will be behind the DAY that goes by; then the DAY is one more");
        WidowWeight x = one(FADING, 9);
        due("behind day 0", x.day(1), 8);
        due("the day", x.count(2), 1);
        due("behind day 1", x.day(1), 8);
        due("the day", x.count(2), 2);
        due("behind day 2", x.day(1), 7);
    }

    // ---- the text

    private static void fault(String text, int place) {
        Twins.asked(() -> {
            WidowWeight x = Twins.some();
            x.clear();
            Twins.type(x, text);
            return x;
        }, "the fault of " + text, WidowWeight::read, -10 - place);
    }

    private static void fine(String text) {
        Twins.told(text);
    }

    private static void bytesOfTheText() {
        Twins.sentence("a TEXT (150 bytes at most)");
        String items = "market;keeper 0 0 7;days 1";
        fine(items + " ".repeat(149 - items.length()) + ";");
        fault(items + " ".repeat(150 - items.length()), 150);
        WidowWeight x = new WidowWeight();
        Twins.type(x, items + " ".repeat(150 - items.length()));
        due("the 151st does not come", x.type(';'), FULL);
        due("it is not read", x.read(), -160);
        due("149 bytes and one", Twins.read(x, items + " ".repeat(149 - items.length()) + ";"), 3);
    }

    private static void marketOnceFirstOfAll() {
        Twins.sentence("market (once, first of all)");
        fine("market;");
        fault("market;market;", 7);
        fault("market;days 1;market;", 14);
        for (String item : new String[] {"keeper 0 0 1;", "mood 0 5;", "balance 0;", "days 1;"}) {
            fault(item, 0);
            fault("  " + item + "market;", 2);
        }
    }

    private static void eachEndedByAStop() {
        Twins.sentence("ITEMS, each ended by ;");
        fault("market days 1;", 7);
        fault("market;days 1 days 1;", 14);
        fault("market;;", 7);
        fault("market;days 1;;", 14);
        fault(";", 0);
        fault("market;keeper 0 0 1 5;", 20);
        fault("market;balance 0 0;", 17);
    }

    private static void keeperItem() {
        Twins.sentence("keeper KIND HOUSE n (1 .. 99 grains)");
        for (int kind = 0; kind <= 5; kind++) {
            due("kind " + kind, Twins.told("market;keeper " + kind + " 0 1;").of(0, 0), kind);
        }
        for (int house = 0; house <= 11; house++) {
            due("house " + house, Twins.told("market;keeper 0 " + house + " 1;").of(0, 1), house);
        }
        for (int n = 1; n <= 99; n++) {
            due("grains " + n, Twins.told("market;keeper 0 0 " + n + ";").of(0, 2), n);
        }
        fault("market;keeper 6 0 1;", 14);
        fault("market;keeper 99 0 1;", 14);
        fault("market;keeper 0 12 1;", 16);
        fault("market;keeper 0 99 1;", 16);
        fault("market;keeper 0 0 0;", 18);
        fault("market;keeper 0 0 00;", 18);
        fault("market;keeper 0 0 100;", 18);
    }

    private static void sevenKeepersOfTheText() {
        Twins.sentence("an 8th keeper (at its word)");
        String seven = "market;" + "keeper0 0 1;".repeat(7);
        due("seven", Twins.told(seven).count(0), 7);
        fault(seven + "keeper0 0 1;", 91);
        fault(seven + "keeper", 91);
        fault(seven + " keeper 9;", 92);
        fine(seven + "mood6 9;");
        fault(seven + "mood7 9;", 95);
    }

    private static void moodItem() {
        Twins.sentence("mood k n; a KEEPER who is not there yet");
        for (int n = 0; n <= 9; n++) {
            due("mood " + n, Twins.told("market;keeper 0 0 1;mood 0 " + n + ";").of(0, 4), n);
        }
        fault("market;keeper 0 0 1;mood 0 10;", 27);
        fault("market;keeper 0 0 1;mood 0 99;", 27);
        fault("market;mood 0 5;", 12);
        fault("market;keeper 0 0 1;mood 1 5;", 25);
        fault("market;mood 0 5;keeper 0 0 1;", 12);
        fault("market;keeper 0 0 1;mood 99 5;", 25);
        WidowWeight x = Twins.told("market;keeper 0 0 1;keeper 0 0 1;mood 1 0;mood 1 9;");
        due("the later one", x.of(1, 4), 9);
        due("not the other one's", x.of(0, 4), 5);
    }

    private static void balanceItem() {
        Twins.sentence("balance KIND");
        int[] emptyPans = {0, 0, 1, 0, 0, -1};
        for (int kind = 0; kind <= 5; kind++) {
            due("kind " + kind, Twins.told("market;balance " + kind + ";").tips(0, 0, 0), emptyPans[kind]);
        }
        fault("market;balance 6;", 15);
        fault("market;balance 99;", 15);
        fault("market;balance;", 14);
    }

    private static void fourBalancesOfTheText() {
        Twins.sentence("a 5th balance (at its word)");
        String four = "market;" + "balance0;".repeat(4);
        due("four", Twins.told(four).count(1), 4);
        fault(four + "balance0;", 43);
        fault(four + "balance", 43);
        fault(four + "balance 9;", 43);
    }

    private static void daysItem() {
        Twins.sentence("days n (1 .. 99: so many go by, where it stands)");
        due("1", Twins.told("market;days 1;").count(2), 1);
        due("99", Twins.told("market;days 99;").count(2), 99);
        due("more of them", Twins.told("market;" + "days 99;".repeat(17)).count(2), 17 * 99);
        fault("market;days 0;", 12);
        fault("market;days 00;", 12);
        fault("market;days 100;", 12);
        WidowWeight x = Twins.told("market;keeper 1 0 9;mood 0 9;days 1;keeper 1 0 9;mood 1 9;days 2;keeper 1 0 9;");
        int[] stones = {7, 8, 9};
        int[] moods = {6, 7, 5};
        for (int k = 0; k < 3; k++) {
            due("what it is " + k, x.of(k, 2), stones[k]);
            due("what it is held to be " + k, x.of(k, 3), 9);
            due("its mood " + k, x.of(k, 4), moods[k]);
        }
    }

    private static void wordsOfLetters() {
        Twins.sentence("words of letters a .. z (a KIND is told as its number); a word that is none");
        fault("a;", 0);
        fault("z;", 0);
        fault("marke;", 0);
        fault("markett;", 0);
        fault("marketz;", 0);
        fault("marketa;", 0);
        fault("xarket;", 0);
        fault("market;xeeper 0 0 1;", 7);
        fault("market;keeper 0 0 1;xood 0 5;", 20);
        fault("market;xalance 0;", 7);
        fault("market;xays 1;", 7);
        fault("amarket;", 0);
        fault("market;keepe 0 0 1;", 7);
        fault("market;keeperr 0 0 1;", 7);
        fault("market;keeper plain 0 1;", 14);
        fault("market;keeper a 0 1;", 14);
        fault("market;keeper 0 z 1;", 16);
        fault("market;balance true;", 15);
        fault("market;daysdays 1;", 7);
        fault("market;moon 0 1;", 7);
        fault("market;daya 1;", 7);
        fault("market;mood balance;", 12);
        fault("markEt;", 0);
        fault("market;5 keeper;", 7);
    }

    private static void figures() {
        Twins.sentence("figures (1 or 2 are one number); a run of three figures or more (at its first one)");
        fine("market;keeper 00 00 01;");
        fine("market;keeper 05 11 99;mood 00 09;balance 05;days 09;");
        fault("market;keeper 0 0 001;", 18);
        fault("market;keeper 005 0 1;", 14);
        fault("market;keeper 0 011 1;", 16);
        fault("market;days 12345678901234567890;", 12);
        fault("market;days 4294967297;", 12);
        fault("market;keeper 0 0 1;mood 000 5;", 25);
        fault("000;", 0);
        fault("market;000;", 7);
        fault("market;keeper 0011;", 14);
        fine("market;days 09;");
        due("09 is 9", Twins.told("market;days 09;").count(2), 9);
        due("90 is 90", Twins.told("market;days 90;").count(2), 90);
    }

    private static void blanks() {
        Twins.sentence("blanks (32), any number, ahead of, between and behind TOKENS (needed only between two words, two numbers)");
        fine("market;keeper0 0 1;mood0 5;balance0;days1;");
        fine("   market   ;   keeper   0   0   1   ;   mood   0   5   ;   days   1   ;   ");
        fine(" ".repeat(143) + "market;");
        fine("market;" + " ".repeat(143));
        fault("mar ket;", 0);
        fault("market;keeper 0 0 1 2;", 20);
        fault("market;days 1 0;", 14);
        due("1 0 are two numbers", Twins.told("market;keeper 1 0 5;").of(0, 1), 0);
        fault("marketkeeper 0 0 1;", 0);
        fault("market;\tdays 1;", 7);
        fault("market" + (char) 31 + ";", 6);
        fault("market!;", 6);
    }

    private static void bytesThatBeginNone() {
        Twins.sentence("a byte that begins none");
        for (int c : new int[] {0, 9, 10, 13, 31, 33, 47, 58, 60, 64, 65, 90, 91, 96, 123, 127}) {
            fault((char) c + "market;", 0);
            fault("market" + (char) c + ";", 6);
            fault("market;days " + (char) c + "1;", 12);
            fault("market;days 1" + (char) c + ";", 13);
            fault("market;" + (char) c, 7);
        }
        for (char c : new char[] {'0', '9'}) {
            fault("market;days " + c + c + c + ";", 12);
        }
    }

    private static void endsTooEarly() {
        Twins.sentence("FAULT: the TEXT's length, if it ends too early (an empty one, too)");
        String whole = "market;keeper 0 11 99;mood 0 5;balance 0;days 10;";
        int[] ends = {0, 6, 13, 14, 15, 16, 18, 19, 21, 26, 27, 28, 29, 30, 38, 39, 40, 45, 46, 47, 48};
        for (int end : ends) {
            fault(whole.substring(0, end), end);
        }
        for (String blanks : new String[] {" ", "     ", " ".repeat(150)}) {
            fault(blanks, blanks.length());
        }
        fault("market  ", 8);
        fault("market;keeper 0 0  ", 19);
        for (int end : new int[] {7, 22, 31, 41, 49}) {
            fine(whole.substring(0, end));
        }
    }

    private static void takesThePlace() {
        Twins.sentence("A MARKET that is read takes the place of all but IMAGES, THE TEXT, THE FRACTION, STATUS");
        for (Twins.Start start : new Twins.Start[] {Twins::some, Twins::full}) {
            WidowWeight x = start.make();
            long[] stay = {x.part(0), x.part(1), x.status(0), x.status(1), x.status(2)};
            due("read", Twins.read(x, "market;keeper 2 3 4;balance 2;"), 3);
            int[] due = {1, 1, 0, 0, 4, 0, 0, 0, 0, 30};
            for (int what = 0; what <= 9; what++) {
                due("count " + what, x.count(what), due[what]);
            }
            long[] are = {x.part(0), x.part(1), x.status(0), x.status(1), x.status(2)};
            for (int i = 0; i < stay.length; i++) {
                due("the fraction, the status stay " + i, are[i], stay[i]);
            }
            due("nothing to undo", x.undo(), NO);
            due("no other keeper", x.of(1, 0), BAD);
            due("no other balance", x.who(1), BAD);
            due("no note", x.is(0), 63);
            due("no tipped one", x.who(0), 63);
            due("no reading", x.maybe(0), 1);
            due("the text is read again", x.read(), 3);
            due("an image stays", x.from(0), 1);
            due("its second keeper", x.of(1, 0), start.make().of(1, 0));
            due("read once more", Twins.read(x, "market;keeper 5 7 50;mood 0 3;keeper 1 11 99;days 1;"), 5);
            int[][] told = {{5, 7, 51, 50, 4, 0}, {1, 11, 98, 99, 5, 0}};
            for (int k = 0; k <= 1; k++) {
                for (int what = 0; what <= 5; what++) {
                    due("of " + k + " " + what, x.of(k, what), told[k][what]);
                }
            }
            due("no balance any more", x.who(0), BAD);
        }
    }

    // ---- stones

    private static void thenBeyondTheLastDay() {
        Twins.sentence("2 DAYS go beyond 9999 in them");
        WidowWeight x = Twins.onDay(new WidowWeight(), 9999);
        x.keeper(FADING, 0, 250);
        x.keeper(WRAPPING, 0, 1);
        due("9999 is no even one", x.then(0, 1), 250);
        due("10000 is one", x.then(0, 2), 249);
        due("99 days", x.then(0, 99), 201);
        due("9999 is a wrapping day", x.then(1, 1), 2);
        due("10002 is the next one", x.then(1, 3), 2);
        due("10002 is the next one", x.then(1, 4), 3);
        due("99 days", x.then(1, 99), 34);
        due("off behind 10000", x.off(0, 1), 2);
        due("off in 98 days", x.off(0, 49), 98);
        due("not in 99 days", x.off(0, 50), NONE);
        due("the day stays", x.count(2), 9999);
    }

    private static void wrappingFromEachDay() {
        Twins.sentence("THEN, OFF: from the DAY that is");
        int[] more = {1, 0, 0, 1, 0, 0};
        for (int day = 0; day < 6; day++) {
            WidowWeight x = Twins.onDay(new WidowWeight(), day);
            x.keeper(WRAPPING, 0, 9);
            int is = 9;
            for (int m = 0; m <= 9; m++) {
                due("on day " + day + " in " + m, x.then(0, m), is);
                is += more[(day + m) % 6];
            }
            due("on day " + day + " off first", x.off(0, 1), day % 3 == 0 ? 1 : 4 - day % 3);
            due("on day " + day + " off by 33", x.off(0, 33), 96 + (day % 3 == 0 ? 1 : 4 - day % 3));
        }
    }

    private static void fewestStonesLeastCode() {
        Twins.sentence("LOAD: the fewest STONES; of like ways the one of the least CODE");
        WidowWeight x = new WidowWeight();
        for (int g : new int[] {3, 4, 7, 7, 14, 7, 250}) {
            x.keeper(PLAIN, 0, g);
        }
        due("one stone, not 3 and 4", x.load(7, 0, 0), 1);
        due("the first one of like", x.load(7, 0, 1), 18);
        due("on the left it tells less than on the right", x.load(1, 0, 1), 1 + 6);
        due("two of like: 7 and 7 or 14", x.load(14, 0, 0), 1);
        due("the one stone, though its code is greater", x.load(14, 0, 1), 162);
        due("three", x.load(17, 0, 0), 2);
        due("the first stone and the fifth", x.load(17, 0, 1), 2 + 162);
        due("4 and 7, not 14 against 3", x.load(11, 0, 1), 6 + 18);
    }

    private static void gainOfAllWays() {
        Twins.sentence("GAIN: of all such ways the least that it may be in truth");
        WidowWeight x = new WidowWeight();
        for (int g : new int[] {9, 2, 3, 50}) {
            x.keeper(PLAIN, 0, g);
        }
        x.held(0, 5);
        x.held(3, 250);
        due("the fewest stones", x.load(5, 0, 2), 9);
        due("two others are less", x.gain(5, 0), 5);
        due("the one stone", x.load(250, 0, 2), 50);
        due("it and two others, against the first", x.gain(250, 0), 50 + 2 + 3 - 9);
        due("below 0", x.gain(240, 0), 50 - 9 - 5);
    }

    private static void theShorterWayRound() {
        Twins.sentence("ROUND: an HOUR for each HOUSE one goes on (the shorter way round 12) and one for each VISIT");
        int[] away = {0, 1, 2, 3, 4, 5, 6, 5, 4, 3, 2, 1};
        for (int house = 0; house <= 11; house++) {
            WidowWeight x = new WidowWeight();
            x.keeper(PLAIN, house, 1);
            due("to house " + house + " and back", x.round(1, NONE), 2 * away[house] + 1);
            x.keeper(PLAIN, (house + 6) % 12, 1);
            due("across from house " + house, x.round(3, NONE), 14);
            x.keeper(PLAIN, house, 1);
            due("two at one house", x.round(5, NONE), 2 * away[house] + 2);
        }
        WidowWeight x = new WidowWeight();
        x.keeper(PLAIN, 11, 1);
        x.keeper(PLAIN, 1, 1);
        due("from house 11 to house 1 it is two", x.round(3, NONE), 6);
    }

    private static void theFirstSuchRow() {
        Twins.sentence("ROUND: the i-th one of the first such row (rising)");
        WidowWeight x = new WidowWeight();
        for (int house : new int[] {6, 3, 9, 6, 0, 3, 9}) {
            x.keeper(PLAIN, house, 1);
        }
        int[] all = {1, 5, 0, 3, 2, 6, 4};
        for (int i = 0; i < 7; i++) {
            due("the " + i + "th of all", x.round(127, i), all[i]);
        }
        due("either way round: the first one", x.round(6, 0), 1);
        due("either way round: the other one", x.round(6, 1), 2);
        due("of one house: the first one", x.round(9, 0), 0);
        due("of one house: the other one", x.round(9, 1), 3);
        due("the one at house 0 at first or at last", x.round(17, 0), 0);
        due("the one at house 0 at first or at last", x.round(17, 1), 4);
    }

    private static void leastGifts() {
        Twins.sentence("GIFTS: the least together (each 0 .. 9); those LENT: 0; none");
        WidowWeight x = Twins.told("market;days 1;" + "keeper3 0 1;".repeat(6) + "keeper2 0 1;mood0 0;mood1 9;");
        due("six of 5", x.gifts(63), 30);
        due("the merry one, too", x.gifts(127), NONE);
        due("the merry one alone", x.gifts(64), NONE);
        for (int k = 0; k < 6; k++) {
            due("lent", x.visit(k, 5), 1);
            due("the others", x.gifts(63), 25 - 5 * k);
        }
        due("the merry one still", x.gifts(127), NONE);
    }

    // ---- which is off

    private static void offByJustOne() {
        Twins.sentence("just one that is off (lighter or heavier by 1)");
        WidowWeight x = new WidowWeight();
        x.keeper(PLAIN, 0, 5);
        x.keeper(PLAIN, 0, 6);
        x.keeper(PLAIN, 0, 8);
        x.reading(1, 2, 0);
        due("5 and 6 are level: 6 is lighter", x.maybe(0), 2);
        due("or 5 is heavier", x.maybe(1), 1);
        x.forget(0);
        x.reading(1, 2, 1);
        due("5 is never more than 6 by 1", x.maybe(0) + x.maybe(1), 0);
        x.forget(0);
        x.reading(2, 4, 0);
        due("6 is never like 8 by 1", x.maybe(0) + x.maybe(1), 0);
        x.forget(0);
        x.reading(0, 0, 0);
        due("empty pans tell nothing", x.maybe(0), 7);
        due("empty pans tell nothing", x.maybe(1), 7);
        x.reading(0, 0, -1);
        due("empty pans never tip", x.maybe(0) + x.maybe(1), 0);
    }

    private static void liftsBothWays() {
        Twins.sentence("LIFT: of all that may be (lighter ones and heavier ones)");
        WidowWeight x = new WidowWeight();
        for (int k = 0; k < 3; k++) {
            x.keeper(PLAIN, 0, 5);
        }
        x.reading(1, 2, 1);
        due("1 lighter", x.maybe(0), 2);
        due("0 heavier", x.maybe(1), 1);
        due("0 and 1 tip alike for both, 0 and 2 do not", x.lift(), 2);
        x.forget(0);
        x.reading(2, 1, 1);
        due("0 lighter", x.maybe(0), 1);
        due("1 heavier", x.maybe(1), 2);
        due("0 and 2 again", x.lift(), 2);
        x.forget(0);
        x.reading(1, 2, 0);
        due("2 alone, lighter or heavier: the first pair with it", x.lift(), 2);
        x.forget(0);
        x.reading(3, 4, 1);
        due("any one lighter", x.maybe(0), 7);
        due("any one heavier", x.maybe(1), 7);
        due("any one of them may be off: the first pair", x.lift(), 1);
    }

    private static void notesAtTheirEnds() {
        Twins.sentence("NOTES: a STONE that was g (1 .. 250) was h (1 .. 250) behind DAY d (0 .. 99)");
        WidowWeight x = one(PLAIN, 1);
        int[][] due = {{1, 0, 1, 31}, {1, 0, 2, 32}, {250, 0, 250, 45}, {250, 0, 249, 2}, {250, 0, 248, 16}, {1, 99, 1, 31},
            {1, 99, 2, 32}, {250, 99, 250, 63}, {250, 99, 249, 0}, {250, 98, 249, 2}, {1, 98, 1, 63}, {2, 98, 1, 18},
            {1, 0, 250, 0}, {250, 99, 1, 0}};
        for (int[] d : due) {
            x.note(0, d[0], d[1], d[2]);
            due(d[0] + " behind " + d[1] + " was " + d[2], x.is(0), d[3]);
            x.forget(1);
        }
    }

    private static void watchFromDayZero() {
        Twins.sentence("WATCH: the DAY (0 .. 11); of like ones the first");
        for (int g : new int[] {1, 2, 9, 250}) {
            for (int day = 0; day <= 12; day++) {
                WidowWeight x = Twins.onDay(new WidowWeight(), day);
                x.keeper(PLAIN, 0, g);
                due("all kinds, " + g + " grains, on day " + day, x.watch(0), 0);
            }
        }
        WidowWeight x = one(WRAPPING, 9);
        x.note(0, 9, 2, 9);
        due("all but the fading ones", x.watch(0), 0);
        x.note(0, 9, 3, 9);
        due("three that are alike on all days", x.watch(0), 0);
        x.note(0, 9, 0, 8);
        due("no kind", x.watch(0), NONE);
    }

    private static void laidGrains() {
        Twins.sentence("LAY: l and r (0 .. 9 each); of like ones the least");
        // by all that tipped, the kinds left, and the first pair by which they tip least alike
        int[][] due = {
            {0, 0, 0, 27, 1}, {0, 0, 1, 4, 0}, {0, 0, -1, 32, 0}, {2, 1, 0, 18, 30}, {2, 0, 0, 18, 30}, {1, 0, -1, 40, 0},
            {1, 0, 1, 5, 0}, {0, 1, 1, 12, 0}, {0, 1, -1, 33, 0}, {9, 0, 0, 16, 0}, {4, 1, 1, 23, 1}, {5, 1, 1, 31, 1},
            {0, 2, 0, 54, 0}};
        for (int[] d : due) {
            WidowWeight x = new WidowWeight();
            x.balance(TRUE);
            x.tipped(0, d[0], d[1], d[2]);
            due("the kinds by " + d[0] + " " + d[1] + " " + d[2], x.who(0), d[3]);
            due("the pair by " + d[0] + " " + d[1] + " " + d[2], x.lay(0), d[4]);
        }
    }

    private static void pairsThatRest() {
        Twins.sentence("BUYERS: nobody has it: to both 0 less half (cut) of it: 0 and 1 are alike, 2 is less");
        for (int mood = 0; mood <= 9; mood++) {
            WidowWeight x = Twins.told("market;keeper 2 0 1;mood 0 " + mood + ";keeper 0 0 1;mood 1 " + mood + ";");
            int[] pairs = {0, 1, 10, 11};
            due("how many", x.buyers(0, NONE), 4);
            for (int k = 0; k < 4; k++) {
                due("pair " + k, x.buyers(0, k), pairs[k]);
            }
            due("a fifth", x.buyers(0, 4), -5);
            due("a plain one: more gets it for less than 8", x.buyers(1, NONE), 0);
        }
    }

    private static void giftsAndKeepersOfYears() {
        Twins.sentence("YEARS: X by 65536 (cut), by 7 left over, is a KEEPER; X by 1048576 (cut), by 10 left over, the GIFT");
        WidowWeight x = Twins.told("market;days 1;" + "keeper3 0 1;".repeat(7));
        due("X is 1605 times 1048576: 5", x.years(501379, 1), 1);
        due("X is just below 1495 times 1048576: 4", x.years(396682, 1), 0);
        WidowWeight one = one(PLAIN, 1);
        due("X is 1 more than a number of times 65536: keeper 0", one.years(233960, 1), 1);
        due("X is 1 less than a number of times 65536: keeper 6", one.years(637726, 1), 0);
        due("X is 2147482477: keeper 0", one.years(518020, 1), 1);
        due("X is 2208: keeper 0", one.years(388515, 1), 1);
        WidowWeight seven = Twins.told("market;" + "keeper2 0 1;".repeat(6) + "keeper0 0 1;");
        due("keeper 6", seven.years(637726, 1), 1);
        due("keeper 0", seven.years(233960, 1), 0);
    }

    private static void yearsBeyondTheLastDay() {
        Twins.sentence("2 DAYS go beyond 9999 in them: YEARS");
        // by seed 1: keepers 3, 4, 5, 1, 6 with gifts 2, 9, 2, 4, 0; 10003 is a MONDAY
        WidowWeight x = Twins.onDay(new WidowWeight(), 9999);
        for (int k = 0; k < 7; k++) {
            x.keeper(MONDAY, 0, 1);
        }
        int[] lent = {0, 0, 1, 1, 1, 2};
        for (int n = 0; n <= 5; n++) {
            due("days " + n, x.years(1, n), lent[n]);
        }
        due("the day stays", x.count(2), 9999);
        due("none is lent", x.count(3), 0);
        WidowWeight six = Twins.onDay(new WidowWeight(), 9999);
        for (int k = 0; k < 6; k++) {
            six.keeper(MONDAY, 0, 1);
        }
        due("the seventh is not there", six.years(1, 5), 1);
    }

    // ---- undone

    private static void whatIsUndone() {
        Twins.sentence("UNDO: what STONES ARE, MOODS, LENT ones, the DAY as ahead of it");
        WidowWeight x = new WidowWeight();
        x.keeper(OLD, 0, 250);
        x.keeper(WRAPPING, 0, 1);
        x.visit(0, 9);
        long digest = x.digest();
        due("the days", x.day(99), 150 + 34);
        due("a visit", x.visit(1, 0), 0);
        due("the day then", x.undo(), 99);
        due("the mood", x.of(1, 4), 5);
        due("the day then", x.undo(), 0);
        due("all as it was", x.digest(), digest);
        int[][] due = {{4, 0, 250, 250, 8, 1}, {5, 0, 1, 1, 5, 0}};
        for (int k = 0; k <= 1; k++) {
            for (int what = 0; what <= 5; what++) {
                due("of " + k + " " + what, x.of(k, what), due[k][what]);
            }
        }
    }

    private static void whatIsNotUndone() {
        Twins.sentence("UNDO: nothing else");
        WidowWeight x = Twins.some();
        x.reading(1, 0, 1);
        x.note(1, 1, 1, 1);
        x.tipped(0, 1, 1, 0);
        x.refusals(2, 0, 10);
        x.type(' ');
        x.image(1);
        due("the day then", x.undo(), 1);
        int[] due = {3, 2, 1, 0, 260, 2, 2, 2, 2, 38};
        for (int what = 0; what <= 9; what++) {
            due("count " + what, x.count(what), due[what]);
        }
        due("the fraction", x.part(0), 0);
        due("the fraction", x.part(1), 1);
        due("the image", x.from(1), 1);
        due("its lent stone", x.of(0, 5), 1);
    }

    private static void refusedOnesAreNotUndone() {
        Twins.sentence("UNDO: refused ones are none that may be undone");
        WidowWeight x = one(PLAIN, 1);
        x.day(0);
        x.day(100);
        x.visit(0, 10);
        x.visit(1, 0);
        due("none", x.count(8), 0);
        due("none", x.undo(), NO);
        x.visit(0, 0);
        x.visit(0, 0);
        due("one", x.count(8), 1);
        due("one", x.undo(), 0);
        due("not another", x.undo(), NO);
    }

    private static void noneMayBeBehind() {
        Twins.sentence("UNDO: behind a KEEPER, a BALANCE that comes, what a STONE is HELD to be told none may be");
        Twins.Call[] ends = {x -> x.keeper(0, 0, 1), x -> x.balance(0), x -> x.held(0, 9), x -> x.held(2, 250)};
        for (int i = 0; i < ends.length; i++) {
            WidowWeight x = Twins.some();
            due("some may be", x.count(8), 3);
            ends[i].on(x);
            due("none behind " + i, x.count(8), 0);
            due("none behind " + i, x.undo(), NO);
            x.day(1);
            due("one again behind " + i, x.undo(), 1);
        }
        Twins.Call[] refused = {x -> x.keeper(0, 0, 1), x -> x.balance(0), x -> x.held(0, 251), x -> x.held(7, 1)};
        for (int i = 0; i < refused.length; i++) {
            WidowWeight x = Twins.full();
            refused[i].on(x);
            due("refused ones leave them " + i, x.count(8), 8);
            due("refused ones leave them " + i, x.undo(), 105);
        }
    }

    // ---- what there is

    private static void imagesKeep() {
        Twins.sentence("IMAGES 0, 1 keep all; what may be undone they keep; it goes on from one");
        for (int i = 0; i <= 1; i++) {
            WidowWeight x = Twins.full();
            long digest = x.digest();
            due("kept", x.image(i), 1);
            x.day(5);
            x.held(0, 77);
            x.forget(0);
            x.forget(1);
            x.forget(2);
            x.market();
            due("gone", x.count(0), 0);
            due("back", x.from(i), 1);
            due("all of it", x.digest(), digest);
            due("undone", x.undo(), 105);
            x.day(1);
            due("back again", x.from(i), 1);
            due("all of it again", x.digest(), digest);
        }
    }

    private static void imagesDoNotKeep() {
        Twins.sentence("IMAGES keep all but them, THE TEXT, THE FRACTION and STATUS");
        WidowWeight x = Twins.some();
        x.image(1);
        x.refusals(2, 5, 8);
        x.clear();
        x.type('a');
        x.visit(0, 0);
        x.of(0, 6);
        x.image(0);
        due("back", x.from(1), 1);
        due("the fraction", x.part(1), 5);
        due("the text", x.count(9), 1);
        due("BAD", x.status(0), 2);
        due("NO", x.status(1), 2);
        due("the other image is the later one", x.from(0), 1);
        due("its keepers", x.count(0), 3);
    }

    private static void imagesStayApart() {
        Twins.sentence("IMAGES 0, 1 are two");
        WidowWeight x = new WidowWeight();
        x.image(0);
        x.keeper(0, 0, 1);
        x.image(1);
        x.keeper(0, 0, 1);
        due("image 0", x.from(0), 1);
        due("nobody", x.count(0), 0);
        due("image 1", x.from(1), 1);
        due("one", x.count(0), 1);
        x.keeper(0, 0, 1);
        x.image(0);
        due("image 1 still", x.from(1), 1);
        due("one", x.count(0), 1);
        due("image 0 anew", x.from(0), 1);
        due("two", x.count(0), 2);
    }

    private static void theFraction() {
        Twins.sentence("THE FRACTION is 0 by 1 at first; lowest terms, below above 0");
        WidowWeight x = Twins.told("market;keeper0 0 1;keeper0 0 1;keeper2 0 1;");
        int[][] due = {{1, 0, 1, 1}, {1, 1, 9, 10}, {1, 2, 4, 5}, {1, 5, 1, 2}, {1, 9, 1, 10}, {1, 10, 0, 1}, {3, 0, 1, 1},
            {3, 1, 81, 100}, {3, 2, 16, 25}, {3, 4, 9, 25}, {3, 5, 1, 4}, {3, 10, 0, 1}, {4, 0, 0, 1}, {7, 1, 0, 1}, {0, 10, 1, 1}};
        due("above at first", x.part(0), 0);
        due("below at first", x.part(1), 1);
        for (int[] d : due) {
            x.refusals(d[0], 9, d[1]);
            due("above of " + d[0] + " by " + d[1], x.part(0), d[2]);
            due("below of " + d[0] + " by " + d[1], x.part(1), d[3]);
        }
        x.refusals(8, 9, 5);
        due("refused: as it was", x.part(0), 1);
    }

    private static void statusCounts() {
        Twins.sentence("STATUS: how many calls were refused as BAD, NO, FULL (each answer told so is such a one)");
        WidowWeight x = new WidowWeight();
        int[] answers = {x.keeper(6, 0, 1), x.load(0, 0, 0), x.gain(0, 0), x.round(0, 0), x.buyers(0, -1), x.status(3)};
        int[] told = {BAD, -20000, -20000, -10, -10, -1};
        for (int i = 0; i < told.length; i++) {
            due("BAD is told as", answers[i], told[i]);
        }
        due("all six", x.status(0), 6);
        x.undo();
        x.from(0);
        due("two", x.status(1), 2);
        x.balance(0);
        for (int i = 0; i < 7; i++) {
            x.balance(0);
            x.reading(0, 0, 0);
            x.tipped(0, 0, 0, 0);
        }
        due("four, one and one", x.status(2), 6);
        due("no more NO", x.status(1), 2);
        due("no more BAD", x.status(0), 6);
        x.keeper(PLAIN, 0, 1);
        int[] fine = {x.off(0, 1), x.lift(), x.load(2, 0, 0), x.gain(2, 0), x.round(1, 1), x.buyers(0, 0), x.read()};
        int[] none = {NONE, NONE, -10000, -10000, -5, -5, -10};
        for (int i = 0; i < none.length; i++) {
            due("none is told as", fine[i], none[i]);
        }
        due("none of them is refused", x.status(0) + x.status(1) + x.status(2), 14);
    }

    private static void badAheadOfNoAheadOfFull() {
        Twins.sentence("Refused, the first of: BAD, NO, FULL");
        Twins.bad(Twins::some, "a visit with a gift of 10 where the stone is lent", x -> x.visit(0, 10));
        Twins.leaves(Twins::some, "pairs below -1 where the stone is lent", x -> x.buyers(0, -2), -10, Twins.AS_BAD);
        Twins.bad(Twins::bare, "image 2, where none was kept", x -> x.from(2));
        Twins.bad(Twins::full, "an 8th keeper of kind 6", x -> x.keeper(6, 0, 1));
        Twins.bad(Twins::full, "a 5th balance of kind 6", x -> x.balance(6));
        Twins.bad(Twins::full, "a 151st byte of 128", x -> x.type(128));
        Twins.bad(Twins::full, "a 7th reading tipped 2", x -> x.reading(1, 2, 2));
        Twins.bad(Twins::full, "a 7th reading of a stone on both", x -> x.reading(1, 1, 0));
        Twins.bad(Twins::full, "a 7th note of 0 grains", x -> x.note(0, 0, 0, 1));
        Twins.bad(Twins::full, "a 7th tipped one of 1000 grains", x -> x.tipped(0, 0, 1000, 0));
    }
}
