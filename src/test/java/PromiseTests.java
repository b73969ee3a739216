import java.util.function.LongSupplier;

/** For each promise its ordinary inputs, the edges that the document names, and wrong inputs. */
public final class PromiseTests {
    private static final int BAD = WidowWeight.BAD;
    private static final int NO = WidowWeight.NO;
    private static final int FULL = WidowWeight.FULL;
    private static final int NONE = WidowWeight.NONE;

    private static String at = "";

    private PromiseTests() {
    }

    public static void main(String[] args) {
        constants();
        newObject();
        market();
        keeper();
        held();
        balance();
        type();
        clear();
        readItems();
        readFaults();
        readTakesPlace();
        visitLending();
        visitMoods();
        visitRefused();
        dayKinds();
        dayMoods();
        dayLast();
        undo();
        undoNone();
        of();
        then();
        off();
        load();
        loadLent();
        gain();
        round();
        gifts();
        tips();
        reading();
        maybe();
        lift();
        note();
        tipped();
        forget();
        is();
        watch();
        who();
        lay();
        buyers();
        refusals();
        years();
        part();
        image();
        from();
        status();
        count();
        digest();
        hugeNumbers();
        Check.end();
    }

    // ---- helpers

    private static void due(String what, long got, long want) {
        Check.due(at + ": " + what, got, want);
    }

    /** A market of keepers, three numbers each: kind, house, grains. */
    private static WidowWeight with(int... keepers) {
        WidowWeight x = new WidowWeight();
        for (int i = 0; i + 2 < keepers.length; i += 3) {
            due("keeper " + i / 3, x.keeper(keepers[i], keepers[i + 1], keepers[i + 2]), i / 3);
        }
        return x;
    }

    private static int told(WidowWeight x, String text) {
        x.clear();
        for (int i = 0; i < text.length(); i++) {
            x.type(text.charAt(i));
        }
        return x.read();
    }

    private static WidowWeight by(String text) {
        WidowWeight x = new WidowWeight();
        int items = 0;
        for (int i = 0; i < text.length(); i++) {
            items += text.charAt(i) == ';' ? 1 : 0;
        }
        due("read of " + text, told(x, text), items);
        return x;
    }

    /** Refused as which (0 BAD, 1 NO, 2 FULL): the answer is due, and nothing changes but STATUS. */
    private static void refused(WidowWeight x, String call, LongSupplier answer, long want, int which) {
        long digest = x.digest();
        int[] were = {x.status(0), x.status(1), x.status(2)};
        due(call, answer.getAsLong(), want);
        due(call + " changes nothing", x.digest(), digest);
        for (int i = 0; i < 3; i++) {
            due(call + " status " + i, x.status(i), were[i] + (i == which ? 1 : 0));
        }
    }

    private static void bad(WidowWeight x, String call, LongSupplier answer) {
        refused(x, call, answer, BAD, 0);
    }

    /** Asked only: the answer is due, and nothing changes at all. */
    private static void asked(WidowWeight x, String call, LongSupplier answer, long want) {
        refused(x, call, answer, want, -1);
    }

    private static WidowWeight onDay(WidowWeight x, int day) {
        while (x.count(2) < day) {
            x.day(Math.min(99, day - x.count(2)));
        }
        due("the day", x.count(2), day);
        return x;
    }

    // ---- a market

    private static void constants() {
        at = "constants";
        due("NONE", NONE, -1);
        due("BAD", BAD, -2);
        due("NO", NO, -3);
        due("FULL", FULL, -4);
    }

    private static void newObject() {
        at = "1 new object";
        WidowWeight x = new WidowWeight();
        for (int what = 0; what <= 9; what++) {
            due("count " + what, x.count(what), 0);
        }
        due("above", x.part(0), 0);
        due("below", x.part(1), 1);
        for (int what = 0; what <= 2; what++) {
            due("status " + what, x.status(what), 0);
        }
        due("undo", x.undo(), NO);
        due("from", x.from(0), NO);
        due("from", x.from(1), NO);
        due("nobody", x.of(0, 0), BAD);
        due("another object is its own", new WidowWeight().status(1), 0);
    }

    private static void market() {
        at = "2 market";
        WidowWeight x = with(0, 3, 5, 1, 4, 6);
        x.balance(1);
        x.type('q');
        x.image(1);
        x.reading(1, 2, 0);
        x.note(0, 5, 0, 5);
        x.tipped(0, 1, 1, 0);
        x.refusals(3, 5, 3);
        x.visit(0, 9);
        x.day(4);
        x.of(9, 9);
        due("market", x.market(), 2);
        for (int what = 0; what <= 8; what++) {
            due("count " + what, x.count(what), 0);
        }
        due("the text stays", x.count(9), 1);
        due("the fraction stays", x.part(0), 49);
        due("the fraction stays", x.part(1), 100);
        due("the status stays", x.status(0), 1);
        due("an image stays", x.from(1), 1);
        due("from the image", x.count(0), 2);
        x.held(0, 33);
        due("lent", x.visit(0, 9), 1);
        due("market", x.market(), 2);
        due("none is lent", x.count(3), 0);
        due("market again", x.market(), 0);
        due("keepers come anew", x.keeper(2, 1, 9), 0);
        int[] anew = {2, 1, 9, 9, 5, 0};
        for (int what = 0; what <= 5; what++) {
            due("of 0 " + what, x.of(0, what), anew[what]);
        }
    }

    private static void keeper() {
        at = "3 keeper";
        WidowWeight x = with(0, 0, 1, 5, 11, 250, 2, 6, 7);
        int[] due = {5, 11, 250, 250, 5, 0};
        for (int what = 0; what <= 5; what++) {
            due("of 1 " + what, x.of(1, what), due[what]);
        }
        bad(x, "kind -1", () -> x.keeper(-1, 0, 1));
        bad(x, "kind 6", () -> x.keeper(6, 0, 1));
        bad(x, "house -1", () -> x.keeper(0, -1, 1));
        bad(x, "house 12", () -> x.keeper(0, 12, 1));
        bad(x, "grains 0", () -> x.keeper(0, 0, 0));
        bad(x, "grains 251", () -> x.keeper(0, 0, 251));
        for (int k = 3; k < 7; k++) {
            due("keeper", x.keeper(1, 1, 2), k);
        }
        refused(x, "an 8th", () -> x.keeper(0, 0, 1), FULL, 2);
        bad(x, "BAD ahead of FULL", () -> x.keeper(6, 0, 1));
    }

    private static void held() {
        at = "4 held";
        WidowWeight x = with(0, 0, 10, 1, 0, 20);
        due("held", x.held(1, 250), 20);
        due("held", x.held(1, 1), 250);
        due("of", x.of(1, 3), 1);
        due("what it is stays", x.of(1, 2), 20);
        due("the other stays", x.of(0, 3), 10);
        x.day(1);
        due("a day leaves what it is held to be", x.of(1, 3), 1);
        bad(x, "grains 0", () -> x.held(0, 0));
        bad(x, "grains 251", () -> x.held(0, 251));
        bad(x, "keeper 2", () -> x.held(2, 5));
        bad(x, "keeper -1", () -> x.held(-1, 5));
        due("refused ones leave what may be undone", x.count(8), 1);
        due("held to be what it was", x.held(0, 10), 10);
        due("none may be undone behind it", x.undo(), NO);
    }

    private static void balance() {
        at = "5 balance";
        WidowWeight x = new WidowWeight();
        bad(x, "kind -1", () -> x.balance(-1));
        bad(x, "kind 6", () -> x.balance(6));
        x.day(1);
        due("balance", x.balance(5), 0);
        due("none may be undone behind it", x.undo(), NO);
        due("balance", x.balance(0), 1);
        due("balance", x.balance(3), 2);
        due("balance", x.balance(3), 3);
        due("count", x.count(1), 4);
        refused(x, "a 5th", () -> x.balance(0), FULL, 2);
        bad(x, "BAD ahead of FULL", () -> x.balance(6));
    }

    private static void type() {
        at = "6 type";
        WidowWeight x = new WidowWeight();
        bad(x, "byte -1", () -> x.type(-1));
        bad(x, "byte 128", () -> x.type(128));
        for (int i = 1; i <= 150; i++) {
            due("type", x.type(i % 2 == 0 ? 0 : 127), i);
        }
        refused(x, "a 151st", () -> x.type(32), FULL, 2);
        bad(x, "BAD ahead of FULL", () -> x.type(128));
    }

    private static void clear() {
        at = "7 clear";
        WidowWeight x = with(0, 0, 1);
        due("clear of none", x.clear(), 0);
        x.type('a');
        x.type('b');
        due("clear", x.clear(), 2);
        due("clear", x.clear(), 0);
        due("type", x.type('a'), 1);
        due("keepers stay", x.count(0), 1);
        x.clear();
        for (char c : "market;".toCharArray()) {
            x.type(c);
        }
        due("what was cleared is not read", x.read(), 1);
    }

    private static void readItems() {
        at = "8 read";
        String[] fine = {
            "market;", " market ; ", "market;keeper 0 0 99;", "market;keeper0 0 1;", "market;keeper05 11 01;",
            "market;keeper 5 11 1;mood 0 9;mood 0 0;", "market;balance 5;balance0;balance 00;balance 4 ;",
            "market;days 99;days1;", "market;keeper  3  4   5  ;  ",
            "market;keeper0 0 1;keeper0 0 1;keeper0 0 1;keeper0 0 1;keeper0 0 1;keeper0 0 1;keeper0 0 1;"
        };
        for (String text : fine) {
            by(text);
        }
        WidowWeight x = by("market;keeper 1 7 50;mood 0 9;days 3;keeper 4 0 7;balance 2;balance 5;mood 1 2;");
        int[][] due = {{1, 7, 48, 50, 6, 0}, {4, 0, 7, 7, 2, 0}};
        for (int k = 0; k < 2; k++) {
            for (int what = 0; what <= 5; what++) {
                due("of " + k + " " + what, x.of(k, what), due[k][what]);
            }
        }
        due("keepers", x.count(0), 2);
        due("balances", x.count(1), 2);
        due("the day", x.count(2), 3);
        due("nothing to undo", x.count(8), 0);
        due("a bent balance", x.tips(0, 0, 0), 1);
        due("a crossed balance", x.tips(1, 0, 0), -1);
        StringBuilder longest = new StringBuilder("market;");
        while (longest.length() < 150) {
            longest.append(longest.length() < 149 ? ' ' : 'x');
        }
        due("150 bytes", told(x, longest.toString()), -10 - 149);
        due("an 8th keeper's mood", told(x, "market;keeper0 0 1;mood 0 5;days 20;"), 4);
        due("what it is", x.of(0, 2), 1);
    }

    private static void readFaults() {
        at = "8 read, faults";
        fault("", 0);
        fault("   ", 3);
        fault("market", 6);
        fault("market  ", 8);
        fault("mark", 0);
        fault("parket;", 0);
        fault("markez;", 0);
        fault("market;nood 0 0;", 7);
        fault("Market;", 0);
        fault("1;", 0);
        fault("123;", 0);
        fault(" ;", 1);
        fault("keeper 0 0 1;", 0);
        fault("days 1;market;", 0);
        fault("balance 0;market;", 0);
        fault("mood 0 5;", 0);
        fault("marketz;", 0);
        fault("marketa;", 0);
        fault("market;market;", 7);
        fault("marketmarket;", 0);
        fault("markets;", 0);
        fault("market market;", 7);
        fault("market keeper;", 7);
        fault("market 5;", 7);
        fault("market5;", 6);
        fault("market;;", 7);
        fault("market;5;", 7);
        fault("market;567;", 7);
        fault("market;day 1;", 7);
        fault("market;daysx 1;", 7);
        fault("market;keepers 0 0 1;", 7);
        fault("market; keep", 8);
        fault("market;keeper 6 0 1;", 14);
        fault("market;keeper 0 12 1;", 16);
        fault("market;keeper 0 0 0;", 18);
        fault("market;keeper 0 0 100;", 18);
        fault("market;keeper 000 0 1;", 14);
        fault("market;keeper 001 0 1;", 14);
        fault("market;keeper 0 1234 1;", 16);
        fault("market;keeper 0 0;", 17);
        fault("market;keeper 0 0 1 1;", 20);
        fault("market;keeper 0 0 1 x;", 20);
        fault("market;keeper 0 0 x;", 18);
        fault("market;keeper 0 0 1", 19);
        fault("market;keeper 0 0 1 ", 20);
        fault("market;keeper 0 0", 17);
        fault("market;keeper", 13);
        fault("market;keeper;", 13);
        fault("market;keeper -1 0 1;", 14);
        fault("market;keeper 0,0 1;", 15);
        fault("market;mood 0 5;", 12);
        fault("market;mood", 11);
        fault("market;keeper 0 0 1;mood 1 5;", 25);
        fault("market;keeper 0 0 1;mood 0 10;", 27);
        fault("market;keeper 0 0 1;mood 0;", 26);
        fault("market;balance 6;", 15);
        fault("market;balance;", 14);
        fault("market;balance0;balance0;balance0;balance0;balance0;", 43);
        fault("market;balance0;balance0;balance0;balance0;balance", 43);
        fault("market;days 0;", 12);
        fault("market;days 00;", 12);
        fault("market;days100;", 11);
        fault("market;days 5 5;", 14);
        fault("market;days keeper;", 12);
        fault("market;days 5", 13);
        fault("market\tx", 6);
        fault("market;\n", 7);
        fault("market;" + (char) 127, 7);
        fault("market;" + (char) 0, 7);
        fault("market;`", 7);
        fault("market;{", 7);
        fault("market;days /;", 12);
        fault("market;days :;", 12);
        fault("market;keeper0 0 1;keeper0 0 1;keeper0 0 1;keeper0 0 1;keeper0 0 1;keeper0 0 1;keeper0 0 1;keeper", 91);
    }

    private static void fault(String text, int place) {
        WidowWeight x = with(4, 3, 30);
        x.balance(1);
        x.reading(1, 0, 1);
        x.visit(0, 3);
        for (char c : text.toCharArray()) {
            x.type(c);
        }
        asked(x, "read of " + text, x::read, -10 - place);
        due("the text stays", x.count(9), text.length());
        due("what may be undone stays", x.undo(), 0);
    }

    private static void readTakesPlace() {
        at = "8 read, in the place of all";
        WidowWeight x = with(0, 0, 9, 0, 1, 9);
        x.balance(0);
        x.reading(1, 2, 0);
        x.note(0, 1, 1, 1);
        x.tipped(0, 0, 0, 0);
        x.refusals(1, 0, 5);
        x.image(0);
        x.visit(0, 5);
        x.day(5);
        x.of(7, 7);
        due("read", told(x, "market;keeper 3 4 5;"), 2);
        int[] due = {1, 0, 0, 0, 5, 0, 0, 0, 0, 20};
        for (int what = 0; what <= 9; what++) {
            due("count " + what, x.count(what), due[what]);
        }
        due("lent", x.of(0, 5), 0);
        due("the fraction stays", x.part(1), 2);
        due("the status stays", x.status(0), 1);
        due("undo", x.undo(), NO);
        due("an image stays", x.from(0), 1);
        due("from the image", x.count(0), 2);
        due("read again: the text stays", x.read(), 2);
        due("keepers", x.count(0), 1);
    }

    // ---- days

    private static boolean lends(int kind, int day, int mood, int gift) {
        boolean enough = mood + gift >= 5;
        boolean monday = day % 7 == 0;
        boolean[] each = {enough, enough, false, enough && (monday || gift >= 5), enough || mood >= 8,
            enough && (monday || gift >= 5)};
        return each[kind];
    }

    private static void visitLending() {
        at = "9 visit";
        for (int kind = 0; kind < 6; kind++) {
            for (int day = 0; day <= 7; day += day == 1 ? 6 : 1) {
                WidowWeight x = new WidowWeight();
                for (int mood = 0; mood <= 9; mood++) {
                    told(x, "market;" + (day > 0 ? "days " + day + ";" : "") + "keeper " + kind + " 0 5;mood 0 " + mood + ";");
                    for (int gift = 0; gift <= 9; gift++) {
                        String call = "kind " + kind + " day " + day + " mood " + mood + " gift " + gift;
                        boolean lent = lends(kind, day, mood, gift);
                        due(call, x.visit(0, gift), lent ? 1 : 0);
                        due(call + ", lent", x.of(0, 5), lent ? 1 : 0);
                        due(call + ", mood", x.of(0, 4), lent ? Math.min(9, mood + gift / 3) : Math.max(0, mood - 1));
                        x.undo();
                    }
                }
            }
        }
    }

    private static void visitMoods() {
        at = "9 visit, moods";
        WidowWeight x = with(0, 0, 5, 2, 0, 5);
        due("gift 8", x.visit(0, 8), 1);
        due("mood", x.of(0, 4), 7);
        due("the other's mood", x.of(1, 4), 5);
        due("the day stays", x.count(2), 0);
        for (int mood = 4; mood >= 0; mood--) {
            due("merry", x.visit(1, 9), 0);
            due("mood", x.of(1, 4), mood);
        }
        due("merry", x.visit(1, 9), 0);
        due("mood 0 at least", x.of(1, 4), 0);
        x.undo();
        due("a visit for nothing may be undone, too", x.count(8), 6);
        WidowWeight y = by("market;keeper 0 0 5;mood 0 8;");
        due("gift 9", y.visit(0, 9), 1);
        due("mood 9 at most", y.of(0, 4), 9);
    }

    private static void visitRefused() {
        at = "9 visit, refused";
        WidowWeight x = with(0, 0, 5, 2, 0, 5);
        bad(x, "keeper 2", () -> x.visit(2, 0));
        bad(x, "keeper -1", () -> x.visit(-1, 0));
        bad(x, "gift -1", () -> x.visit(0, -1));
        bad(x, "gift 10", () -> x.visit(0, 10));
        x.visit(0, 0);
        refused(x, "lent", () -> x.visit(0, 9), NO, 1);
        bad(x, "BAD ahead of NO", () -> x.visit(0, 10));
    }

    private static void dayKinds() {
        at = "10 day";
        WidowWeight x = with(0, 0, 9, 1, 0, 9, 2, 0, 9, 3, 0, 9, 4, 0, 9, 5, 0, 9, 5, 0, 250);
        int[][] due = {{9, 8, 9, 9, 7, 10, 250}, {9, 8, 9, 9, 7, 10, 250}, {9, 7, 9, 9, 5, 10, 250},
            {9, 7, 9, 9, 5, 11, 250}, {9, 6, 9, 9, 3, 11, 250}, {9, 6, 9, 9, 3, 11, 250}, {9, 5, 9, 9, 1, 12, 250},
            {9, 5, 9, 9, 1, 12, 250}, {9, 4, 9, 9, 1, 12, 250}};
        for (int d = 0; d < due.length; d++) {
            int all = 0;
            for (int g : due[d]) {
                all += g;
            }
            due("day behind " + d, x.day(1), all);
            due("the day", x.count(2), d + 1);
            for (int k = 0; k < 7; k++) {
                due("stone " + k + " behind " + d, x.of(k, 2), due[d][k]);
            }
        }
        WidowWeight y = with(1, 0, 2, 4, 0, 3, 4, 0, 2);
        due("99 days", y.day(99), 3);
        due("the day", y.count(2), 99);
        due("they are one to be undone", y.undo(), 0);
        due("what they are", y.count(4), 7);
        bad(y, "0 days", () -> y.day(0));
        bad(y, "-1 days", () -> y.day(-1));
        bad(y, "100 days", () -> y.day(100));
        due("nobody", new WidowWeight().day(1), 0);
    }

    private static void dayMoods() {
        at = "10 day, moods";
        WidowWeight x = by("market;keeper 0 0 5;mood 0 9;keeper 0 0 5;mood 1 0;keeper 0 0 5;keeper 0 0 5;mood 3 6;");
        x.visit(2, 0);
        due("lent", x.count(3), 1);
        int[][] due = {{8, 1, 5, 5}, {7, 2, 5, 5}, {6, 3, 5, 5}, {5, 4, 5, 5}, {5, 5, 5, 5}};
        for (int d = 0; d < due.length; d++) {
            x.day(1);
            for (int k = 0; k < 4; k++) {
                due("mood " + k + " behind " + d, x.of(k, 4), due[d][k]);
            }
            due("none is lent", x.count(3), 0);
        }
        due("lent for the day only", x.visit(2, 0), 1);
        WidowWeight y = by("market;keeper 0 0 5;mood 0 9;");
        y.day(3);
        due("three days' mood", y.of(0, 4), 6);
    }

    private static void dayLast() {
        at = "10 day, the last";
        WidowWeight x = onDay(with(1, 0, 250, 5, 0, 1, 2, 0, 7), 9998);
        int fading = x.of(0, 2);
        due("fading", fading, 1);
        int wrapping = x.of(1, 2);
        due("five days", x.day(5), fading + wrapping + 7);
        due("the day", x.count(2), 9999);
        x.visit(0, 9);
        x.visit(2, 9);
        due("mood", x.of(2, 4), 4);
        int undone = x.count(8);
        due("may be undone", undone, 8);
        due("none goes by", x.day(99), fading + wrapping + 7);
        due("the day", x.count(2), 9999);
        due("lent still", x.of(0, 5), 1);
        due("mood still", x.of(2, 4), 4);
        due("mood still", x.of(0, 4), 8);
        due("undo of none", x.undo(), 9999);
        due("lent still", x.of(0, 5), 1);
        due("undo of a visit", x.undo(), 9999);
        due("mood", x.of(2, 4), 5);
        due("undo of a visit", x.undo(), 9999);
        due("not lent", x.of(0, 5), 0);
        due("undo of days", x.undo(), 9998);
        WidowWeight y = onDay(with(0, 0, 5), 9999);
        y.held(0, 6);
        due("none to undo", y.count(8), 0);
        due("none goes by", y.day(1), 5);
        due("it may be undone", y.count(8), 1);
    }

    private static void undo() {
        at = "11 undo";
        WidowWeight x = with(1, 0, 10, 2, 0, 20, 5, 0, 30);
        x.visit(1, 4);
        x.visit(0, 6);
        x.day(1);
        x.visit(2, 9);
        x.day(6);
        due("may be undone", x.count(8), 5);
        due("undo days", x.undo(), 1);
        int[][] due = {{9, 6, 0}, {20, 5, 0}, {31, 8, 1}};
        same(x, due);
        due("undo a visit", x.undo(), 1);
        due[2][1] = 5;
        due[2][2] = 0;
        same(x, due);
        due("undo a day", x.undo(), 0);
        same(x, new int[][] {{10, 7, 1}, {20, 4, 0}, {30, 5, 0}});
        due("undo a visit", x.undo(), 0);
        same(x, new int[][] {{10, 5, 0}, {20, 4, 0}, {30, 5, 0}});
        due("undo a visit", x.undo(), 0);
        same(x, new int[][] {{10, 5, 0}, {20, 5, 0}, {30, 5, 0}});
        refused(x, "none may be", x::undo, NO, 1);
        for (int i = 1; i <= 10; i++) {
            x.day(i);
            due("may be undone", x.count(8), Math.min(i, 8));
        }
        int[] days = {45, 36, 28, 21, 15, 10, 6, 3};
        for (int day : days) {
            due("undo", x.undo(), day);
        }
        refused(x, "8 at most", x::undo, NO, 1);
        due("the day", x.count(2), 3);
        due("what they are", x.count(4), 8 + 20 + 31);
    }

    private static void same(WidowWeight x, int[][] due) {
        for (int k = 0; k < due.length; k++) {
            due("is " + k, x.of(k, 2), due[k][0]);
            due("mood " + k, x.of(k, 4), due[k][1]);
            due("lent " + k, x.of(k, 5), due[k][2]);
        }
    }

    private static void undoNone() {
        at = "11 undo, none may be";
        WidowWeight x = with(0, 0, 10);
        LongSupplier[] ends = {() -> x.keeper(0, 0, 1), () -> x.balance(0), () -> x.held(0, 10), x::market};
        for (LongSupplier end : ends) {
            x.day(2);
            x.visit(0, 0);
            due("may be undone", x.count(8), 2);
            end.getAsLong();
            due("none may be", x.count(8), 0);
            refused(x, "none may be", x::undo, NO, 1);
        }
        WidowWeight y = with(0, 0, 10);
        y.balance(0);
        y.day(2);
        y.reading(1, 0, 1);
        y.note(0, 1, 0, 1);
        y.tipped(0, 1, 1, 0);
        y.forget(0);
        y.refusals(1, 1, 1);
        y.years(1, 1);
        y.image(0);
        y.keeper(9, 9, 9);
        due("others leave it", y.undo(), 0);
        due("they stay when undone", y.count(6), 1);
        due("they stay when undone", y.count(7), 1);
    }

    private static void of() {
        at = "12 of";
        WidowWeight x = with(3, 11, 77, 4, 2, 40);
        x.held(1, 99);
        x.day(1);
        x.visit(1, 9);
        int[][] due = {{3, 11, 77, 77, 5, 0}, {4, 2, 38, 99, 8, 1}};
        for (int k = 0; k < 2; k++) {
            for (int what = 0; what <= 5; what++) {
                int kk = k;
                int ww = what;
                asked(x, "of " + k + " " + what, () -> x.of(kk, ww), due[k][what]);
            }
        }
        bad(x, "what -1", () -> x.of(0, -1));
        bad(x, "what 6", () -> x.of(0, 6));
        bad(x, "keeper 2", () -> x.of(2, 0));
        bad(x, "keeper -1", () -> x.of(-1, 0));
    }

    // ---- stones

    private static void then() {
        at = "13 then";
        WidowWeight x = with(0, 0, 9, 1, 0, 9, 4, 0, 9, 5, 0, 9, 5, 0, 249, 4, 0, 250);
        int[][] due = {{9, 9, 9, 9, 9}, {9, 8, 7, 7, 1}, {9, 7, 5, 5, 1}, {9, 10, 10, 10, 42}, {249, 250, 250, 250, 250},
            {250, 248, 246, 246, 150}};
        int[] when = {0, 1, 3, 4 - 1, 99};
        for (int k = 0; k < due.length; k++) {
            for (int i = 0; i < when.length; i++) {
                int kk = k;
                int m = when[i];
                asked(x, "then " + k + " " + m, () -> x.then(kk, m), due[k][i]);
            }
        }
        x.day(1);
        due("from an odd day", x.then(1, 1), 8);
        due("from an odd day", x.then(1, 2), 7);
        due("from day 1", x.then(3, 2), 10);
        due("from day 1", x.then(3, 3), 11);
        bad(x, "keeper 6", () -> x.then(6, 0));
        bad(x, "keeper -1", () -> x.then(-1, 0));
        bad(x, "-1 days", () -> x.then(0, -1));
        bad(x, "100 days", () -> x.then(0, 100));
        WidowWeight y = onDay(new WidowWeight(), 9999);
        y.keeper(1, 0, 100);
        y.keeper(5, 0, 100);
        due("beyond 9999", y.then(0, 1), 100);
        due("beyond 9999", y.then(0, 2), 99);
        due("beyond 9999", y.then(0, 99), 51);
        due("beyond 9999", y.then(1, 1), 101);
        due("beyond 9999", y.then(1, 3), 101);
        due("beyond 9999", y.then(1, 4), 102);
    }

    private static void off() {
        at = "14 off";
        WidowWeight x = with(1, 0, 9, 4, 0, 9, 5, 0, 9, 0, 0, 9, 5, 0, 200);
        int[][] due = {{0, 1, 1}, {0, 2, 3}, {0, 8, 15}, {0, 9, -1}, {1, 1, 1}, {1, 2, 1}, {1, 3, 3}, {1, 8, 7}, {1, 9, -1},
            {2, 1, 1}, {2, 2, 4}, {2, 33, 97}, {2, 34, -1}, {3, 1, -1}, {4, 33, 97}, {4, 99, -1}};
        for (int[] d : due) {
            asked(x, "off " + d[0] + " " + d[1], () -> x.off(d[0], d[1]), d[2]);
        }
        x.held(0, 6);
        due("heavier by 3 now", x.off(0, 3), 0);
        due("lighter by 4 then", x.off(0, 4), 13);
        x.held(3, 108);
        due("off by 99", x.off(3, 99), 0);
        x.held(3, 107);
        due("off by 98 only", x.off(3, 99), -1);
        x.held(2, 43);
        due("34 now", x.off(2, 34), 0);
        x.day(1);
        due("33 now, less then", x.off(2, 34), -1);
        x.held(2, 9);
        due("in 99 days", x.off(2, 34), 99);
        bad(x, "keeper 5", () -> x.off(5, 1));
        bad(x, "keeper -1", () -> x.off(-1, 1));
        bad(x, "by 0", () -> x.off(0, 0));
        bad(x, "by 100", () -> x.off(0, 100));
        WidowWeight y = onDay(new WidowWeight(), 9999);
        y.keeper(4, 0, 100);
        due("beyond 9999", y.off(0, 2), 2);
        due("beyond 9999", y.off(0, 98), 98);
        due("beyond 9999", y.off(0, 99), -1);
    }

    private static void way(WidowWeight x, int l, int lent, int... due) {
        for (int what = 0; what <= 2; what++) {
            int w = what;
            asked(x, "load " + l + " " + lent + " " + what, () -> x.load(l, lent, w), due[what]);
        }
    }

    private static void load() {
        at = "15 load";
        WidowWeight x = with(0, 0, 2, 0, 0, 2, 0, 0, 4, 0, 0, 6);
        way(x, 2, 0, 1, 2, 2);
        way(x, 4, 0, 1, 18, 4);
        way(x, 6, 0, 1, 54, 6);
        way(x, 8, 0, 2, 56, 8);
        way(x, 10, 0, 2, 72, 10);
        way(x, 12, 0, 3, 74, 12);
        way(x, 14, 0, 4, 80, 14);
        way(x, 1, 0, -10000, -10000, -10000);
        way(x, 15, 0, -10000, -10000, -10000);
        way(x, 999, 0, -10000, -10000, -10000);
        WidowWeight y = with(0, 0, 1, 0, 0, 3, 1, 0, 9, 4, 0, 27, 5, 0, 81, 0, 0, 243, 0, 0, 250);
        way(y, 5, 0, 3, 1 + 3 + 18, 5);
        way(y, 364, 0, 5, 3 + 18 + 54 + 162 + 1458, 364);
        way(y, 614, 0, 7, 2186, 614);
        y.day(1);
        way(y, 5, 0, 3, 1 + 3 + 18, 4);
        way(y, 27, 0, 1, 54, 25);
        way(y, 54, 0, 2, 27 + 162, 82 - 25);
        y.held(1, 250);
        way(y, 249, 0, 2, 1 + 6, 2);
        way(y, 241, 0, 2, 9 + 6, 3 - 8);
        bad20(y, "grains 0", () -> y.load(0, 0, 0));
        bad20(y, "grains 1000", () -> y.load(1000, 0, 0));
        bad20(y, "lent -1", () -> y.load(1, -1, 0));
        bad20(y, "lent 2", () -> y.load(1, 2, 0));
        bad20(y, "what -1", () -> y.load(1, 0, -1));
        bad20(y, "what 3", () -> y.load(1, 0, 3));
        WidowWeight z = new WidowWeight();
        way(z, 1, 0, -10000, -10000, -10000);
        way(z, 1, 1, -10000, -10000, -10000);
    }

    private static void bad20(WidowWeight x, String call, LongSupplier answer) {
        refused(x, call, answer, -20000, 0);
    }

    private static void loadLent() {
        at = "15 load, lent ones alone";
        WidowWeight x = with(0, 0, 5, 0, 0, 5, 0, 0, 3);
        way(x, 5, 1, -10000, -10000, -10000);
        x.visit(1, 0);
        way(x, 5, 0, 1, 2, 5);
        way(x, 5, 1, 1, 6, 5);
        way(x, 2, 1, -10000, -10000, -10000);
        x.visit(2, 0);
        way(x, 2, 1, 2, 6 + 9, 2);
        way(x, 8, 1, 2, 6 + 18, 8);
        way(x, 10, 1, -10000, -10000, -10000);
        way(x, 10, 0, 2, 2 + 6, 10);
    }

    private static void gain() {
        at = "16 gain";
        WidowWeight x = with(0, 0, 3, 0, 0, 1, 1, 0, 2);
        x.day(1);
        way(x, 3, 0, 1, 2, 3);
        asked(x, "by other stones", () -> x.gain(3, 0), 2);
        asked(x, "1 grain", () -> x.gain(1, 0), 0);
        asked(x, "one way", () -> x.gain(5, 0), 4);
        asked(x, "no way", () -> x.gain(7, 0), -10000);
        asked(x, "none lent", () -> x.gain(3, 1), -10000);
        x.visit(0, 0);
        asked(x, "lent alone", () -> x.gain(3, 1), 3);
        x.held(2, 250);
        asked(x, "below 0", () -> x.gain(247, 0), 1 - 3);
        bad20(x, "grains 0", () -> x.gain(0, 0));
        bad20(x, "grains 1000", () -> x.gain(1000, 0));
        bad20(x, "lent -1", () -> x.gain(1, -1));
        bad20(x, "lent 2", () -> x.gain(1, 2));
        WidowWeight y = with(0, 0, 10, 0, 0, 20, 0, 0, 40);
        y.held(0, 3);
        y.held(1, 5);
        y.held(2, 8);
        asked(y, "the least of two ways", () -> y.gain(8, 0), 30);
        y.held(0, 2);
        y.held(1, 4);
        y.held(2, 6);
        asked(y, "the way of the fewest stones may be it", () -> y.gain(4, 0), 20);
    }

    private static void round() {
        at = "17 round";
        WidowWeight x = with(0, 9, 1, 0, 3, 1, 0, 1, 1, 0, 0, 1, 0, 6, 1, 0, 11, 1, 0, 11, 1);
        tour(x, 1, 7, 0);
        tour(x, 2, 7, 1);
        tour(x, 8, 1, 3);
        tour(x, 16, 13, 4);
        tour(x, 3, 14, 0, 1);
        tour(x, 5, 10, 0, 2);
        tour(x, 32, 3, 5);
        tour(x, 96, 4, 5, 6);
        tour(x, 97, 9, 0, 5, 6);
        tour(x, 100, 7, 2, 5, 6);
        tour(x, 10, 8, 1, 3);
        tour(x, 14, 9, 1, 2, 3);
        tour(x, 127, 19, 2, 1, 4, 0, 5, 6, 3);
        refused(x, "nobody", () -> x.round(0, -1), -10, 0);
        refused(x, "i -2", () -> x.round(1, -2), -10, 0);
        refused(x, "keepers 128", () -> x.round(128, -1), -10, 0);
        refused(x, "keepers -1", () -> x.round(-1, -1), -10, 0);
        WidowWeight y = with(0, 6, 1, 0, 2, 1);
        refused(y, "a keeper not there", () -> y.round(4, 0), -10, 0);
        tour(y, 3, 14, 0, 1);
    }

    private static void tour(WidowWeight x, int keepers, int hours, int... row) {
        asked(x, "hours of " + keepers, () -> x.round(keepers, -1), hours);
        for (int i = 0; i < row.length; i++) {
            int ii = i;
            asked(x, "round " + keepers + " " + i, () -> x.round(keepers, ii), row[i]);
        }
        asked(x, "not so many", () -> x.round(keepers, row.length), -5);
        asked(x, "not so many by far", () -> x.round(keepers, Integer.MAX_VALUE), -5);
    }

    private static void gifts() {
        at = "18 gifts";
        WidowWeight x = by("market;days 1;keeper 0 0 5;mood 0 2;keeper 3 0 5;mood 1 9;keeper 4 0 5;mood 2 8;"
            + "keeper 2 0 5;keeper 5 0 5;mood 4 0;");
        asked(x, "plain", () -> x.gifts(1), 3);
        asked(x, "monday", () -> x.gifts(2), 5);
        asked(x, "old", () -> x.gifts(4), 0);
        asked(x, "merry", () -> x.gifts(8), -1);
        asked(x, "wrapping", () -> x.gifts(16), 5);
        asked(x, "all but the merry one", () -> x.gifts(23), 13);
        asked(x, "the merry one, too", () -> x.gifts(31), -1);
        asked(x, "nobody", () -> x.gifts(0), 0);
        x.visit(0, 3);
        asked(x, "lent", () -> x.gifts(1), 0);
        asked(x, "lent and not", () -> x.gifts(3), 5);
        x.day(6);
        asked(x, "on a monday", () -> x.gifts(2), 0);
        bad(x, "keepers 32", () -> x.gifts(32));
        bad(x, "keepers -1", () -> x.gifts(-1));
        WidowWeight none = new WidowWeight();
        bad(none, "keepers 1", () -> none.gifts(1));
        asked(none, "nobody", () -> none.gifts(0), 0);
    }

    private static int tip(int kind, int l, int r) {
        int t = Integer.signum(l - r);
        switch (kind) {
            case 1:
                return l - r >= 3 || r - l >= 3 ? t : 0;
            case 2:
                return Integer.signum(l + 2 - r);
            case 3:
                return (l + r) % 2 == 1 ? -t : t;
            case 4:
                return r == 0 ? 0 : tip(1, l, r);
            case 5:
                return -tip(2, l, r);
            default:
                return t;
        }
    }

    private static void tips() {
        at = "19 tips";
        for (int kind = 0; kind < 6; kind++) {
            WidowWeight x = with(0, 0, 1, 0, 0, 2, 0, 0, 3, 0, 0, 5);
            x.balance((kind + 1) % 6);
            x.balance(kind);
            int[] grains = {1, 2, 3, 5};
            for (int left = 0; left < 16; left++) {
                int right = 15 & ~left & 0x5A5A >> left;
                int l = 0;
                int r = 0;
                for (int k = 0; k < 4; k++) {
                    l += (left >> k & 1) * grains[k];
                    r += (right >> k & 1) * grains[k];
                }
                int want = tip(kind, l, r);
                int ll = left;
                asked(x, "kind " + kind + " tips " + l + " " + r, () -> x.tips(1, ll, right), want);
                due("the other way", x.tips(1, right, left), tip(kind, r, l));
            }
            bad(x, "a stone on both", () -> x.tips(1, 3, 2));
            bad(x, "stones 16", () -> x.tips(1, 16, 0));
            bad(x, "stones 16", () -> x.tips(1, 0, 16));
            bad(x, "stones -1", () -> x.tips(1, -1, 0));
            bad(x, "stones -1", () -> x.tips(1, 0, -1));
            bad(x, "balance 2", () -> x.tips(2, 1, 2));
            bad(x, "balance -1", () -> x.tips(-1, 1, 2));
        }
        WidowWeight y = with(1, 0, 5, 0, 0, 5);
        y.balance(0);
        y.held(0, 250);
        due("by what they are", y.tips(0, 1, 2), 0);
        y.day(1);
        due("by what they are now", y.tips(0, 1, 2), -1);
    }

    // ---- which is off

    private static void reading() {
        at = "20 reading";
        WidowWeight x = with(0, 0, 1, 0, 0, 1);
        bad(x, "a stone on both", () -> x.reading(1, 3, 0));
        bad(x, "stones 4", () -> x.reading(4, 0, 0));
        bad(x, "stones 4", () -> x.reading(0, 4, 0));
        bad(x, "stones -1", () -> x.reading(-1, 0, 0));
        bad(x, "stones -1", () -> x.reading(0, -1, 0));
        bad(x, "tips 2", () -> x.reading(1, 2, 2));
        bad(x, "tips -2", () -> x.reading(1, 2, -2));
        for (int i = 1; i <= 6; i++) {
            due("reading", x.reading(i % 2, 2, i % 3 - 1), i);
            due("count", x.count(5), i);
        }
        refused(x, "a 7th", () -> x.reading(1, 2, 0), FULL, 2);
        bad(x, "BAD ahead of FULL", () -> x.reading(1, 1, 0));
    }

    private static void maybe() {
        at = "21 maybe";
        WidowWeight x = with(0, 0, 9, 0, 0, 9, 0, 0, 9, 0, 0, 1, 0, 0, 250);
        asked(x, "all may be", () -> x.maybe(0), 31);
        asked(x, "all may be", () -> x.maybe(1), 31);
        x.reading(1, 2, 1);
        asked(x, "lighter: on the right", () -> x.maybe(0), 2);
        asked(x, "heavier: on the left", () -> x.maybe(1), 1);
        x.forget(0);
        x.reading(1, 2, 0);
        asked(x, "level: the others", () -> x.maybe(0), 4 + 8 + 16);
        asked(x, "level: the others", () -> x.maybe(1), 4 + 8 + 16);
        x.reading(1, 4, -1);
        asked(x, "none lighter", () -> x.maybe(0), 0);
        asked(x, "the third heavier", () -> x.maybe(1), 4);
        x.reading(8, 0, 0);
        asked(x, "none", () -> x.maybe(1), 0);
        x.forget(0);
        x.reading(8, 0, 0);
        asked(x, "one of 1 grain lighter is nothing", () -> x.maybe(0), 8);
        x.forget(0);
        x.reading(1 + 8, 2, 0);
        asked(x, "one more on the left", () -> x.maybe(0), 1 + 8);
        asked(x, "one more on the left", () -> x.maybe(1), 2);
        x.held(0, 8);
        asked(x, "by what they are held to be now", () -> x.maybe(0), 4 + 16);
        bad(x, "what -1", () -> x.maybe(-1));
        bad(x, "what 2", () -> x.maybe(2));
        WidowWeight none = new WidowWeight();
        asked(none, "nobody", () -> none.maybe(0), 0);
    }

    private static void lift() {
        at = "22 lift";
        WidowWeight x = with(0, 0, 5);
        asked(x, "one stone alone", x::lift, NONE);
        x.keeper(0, 0, 5);
        asked(x, "two stones", x::lift, 1);
        x.keeper(0, 0, 9);
        x.keeper(0, 0, 9);
        asked(x, "parts of 4, 2, 2 by either pair", x::lift, 1);
        x.held(0, 4);
        asked(x, "0 and 1 tip left at worst but for two", x::lift, 8 * 2 + 3);
        x.reading(1, 0, 0);
        asked(x, "nothing may be", x::lift, NONE);
        x.forget(0);
        x.held(0, 5);
        x.reading(4, 8, 1);
        due("lighter", x.maybe(0), 8);
        due("heavier", x.maybe(1), 4);
        asked(x, "each pair tips alike for both: the least", x::lift, 1);
        WidowWeight none = new WidowWeight();
        asked(none, "nobody", none::lift, NONE);
        WidowWeight y = with(0, 0, 1, 0, 0, 3, 0, 0, 2, 0, 0, 3);
        asked(y, "held alike part best", y::lift, 8 * 1 + 3);
        WidowWeight z = with(0, 0, 5, 0, 0, 5, 0, 0, 5);
        z.reading(1, 2, 1);
        asked(z, "0 heavier or 1 lighter: 0 against 2 tells", z::lift, 2);
    }

    private static void note() {
        at = "23 note";
        WidowWeight x = with(0, 0, 1);
        bad(x, "keeper 1", () -> x.note(1, 1, 0, 1));
        bad(x, "keeper -1", () -> x.note(-1, 1, 0, 1));
        bad(x, "was 0", () -> x.note(0, 0, 0, 1));
        bad(x, "was 251", () -> x.note(0, 251, 0, 1));
        bad(x, "day -1", () -> x.note(0, 1, -1, 1));
        bad(x, "day 100", () -> x.note(0, 1, 100, 1));
        bad(x, "is 0", () -> x.note(0, 1, 0, 0));
        bad(x, "is 251", () -> x.note(0, 1, 0, 251));
        for (int i = 1; i <= 6; i++) {
            due("note", x.note(0, i % 2 == 0 ? 1 : 250, i % 2 == 0 ? 0 : 99, i % 2 == 0 ? 250 : 1), i);
            due("count", x.count(6), i);
        }
        refused(x, "a 7th", () -> x.note(0, 1, 0, 1), FULL, 2);
        bad(x, "BAD ahead of FULL", () -> x.note(1, 1, 0, 1));
    }

    private static void tipped() {
        at = "24 tipped";
        WidowWeight x = new WidowWeight();
        x.balance(0);
        bad(x, "balance 1", () -> x.tipped(1, 0, 0, 0));
        bad(x, "balance -1", () -> x.tipped(-1, 0, 0, 0));
        bad(x, "left -1", () -> x.tipped(0, -1, 0, 0));
        bad(x, "left 1000", () -> x.tipped(0, 1000, 0, 0));
        bad(x, "right -1", () -> x.tipped(0, 0, -1, 0));
        bad(x, "right 1000", () -> x.tipped(0, 0, 1000, 0));
        bad(x, "tipped -2", () -> x.tipped(0, 0, 0, -2));
        bad(x, "tipped 2", () -> x.tipped(0, 0, 0, 2));
        for (int i = 1; i <= 6; i++) {
            due("tipped", x.tipped(0, i % 2 * 999, 999 - i % 2 * 999, i % 3 - 1), i);
            due("count", x.count(7), i);
        }
        refused(x, "a 7th", () -> x.tipped(0, 0, 0, 0), FULL, 2);
        bad(x, "BAD ahead of FULL", () -> x.tipped(1, 0, 0, 0));
    }

    private static void forget() {
        at = "25 forget";
        WidowWeight x = with(0, 0, 1);
        x.balance(0);
        for (int i = 0; i < 3; i++) {
            x.reading(1, 0, 1);
            x.note(0, 1, 0, 1);
            x.tipped(0, 1, 1, 0);
        }
        x.note(0, 1, 0, 1);
        x.tipped(0, 1, 1, 0);
        x.tipped(0, 1, 1, 0);
        bad(x, "what -1", () -> x.forget(-1));
        bad(x, "what 3", () -> x.forget(3));
        due("notes", x.forget(1), 4);
        counts(x, 3, 0, 5);
        due("readings", x.forget(0), 3);
        counts(x, 0, 0, 5);
        due("tipped", x.forget(2), 5);
        counts(x, 0, 0, 0);
        due("none", x.forget(0), 0);
        due("none", x.forget(1), 0);
        due("none", x.forget(2), 0);
        due("one again", x.note(0, 1, 0, 1), 1);
    }

    private static void counts(WidowWeight x, int readings, int notes, int tipped) {
        due("readings left", x.count(5), readings);
        due("notes left", x.count(6), notes);
        due("tipped left", x.count(7), tipped);
    }

    private static void is() {
        at = "26 is";
        WidowWeight x = with(0, 0, 1, 4, 0, 1);
        asked(x, "no notes", () -> x.is(0), 63);
        int[][] due = {{9, 0, 9, 13}, {9, 0, 8, 2}, {9, 0, 7, 16}, {9, 0, 10, 32}, {9, 0, 6, 0}, {9, 1, 9, 63},
            {9, 2, 9, 45}, {9, 3, 10, 32}, {9, 3, 9, 31}, {1, 0, 1, 31}, {2, 0, 1, 18}, {250, 0, 250, 45}, {250, 3, 250, 63},
            {9, 98, 8, 2}, {9, 99, 10, 32}};
        for (int[] d : due) {
            x.note(1, d[0], d[1], d[2]);
            asked(x, "note " + d[0] + " " + d[1] + " " + d[2], () -> x.is(1), d[3]);
            asked(x, "the other one", () -> x.is(0), 63);
            x.forget(1);
        }
        x.note(0, 9, 3, 9);
        x.note(1, 9, 0, 7);
        x.note(0, 2, 0, 1);
        asked(x, "all notes of it", () -> x.is(0), 18);
        asked(x, "all notes of it", () -> x.is(1), 16);
        x.note(0, 3, 0, 2);
        asked(x, "all notes of it", () -> x.is(0), 2);
        bad(x, "keeper 2", () -> x.is(2));
        bad(x, "keeper -1", () -> x.is(-1));
    }

    private static void watch() {
        at = "27 watch";
        WidowWeight x = with(0, 0, 9, 1, 0, 1);
        asked(x, "day 0 parts best", () -> x.watch(0), 0);
        asked(x, "day 0 parts best", () -> x.watch(1), 0);
        x.day(1);
        asked(x, "the day that is makes none of it", () -> x.watch(0), 0);
        x.note(0, 9, 0, 8);
        asked(x, "one kind", () -> x.watch(0), 0);
        x.note(0, 9, 0, 9);
        asked(x, "no kind", () -> x.watch(0), NONE);
        asked(x, "the other one", () -> x.watch(1), 0);
        bad(x, "keeper 2", () -> x.watch(2));
        bad(x, "keeper -1", () -> x.watch(-1));
    }

    private static void who() {
        at = "28 who";
        WidowWeight x = new WidowWeight();
        x.balance(0);
        x.balance(0);
        asked(x, "none tipped", () -> x.who(0), 63);
        int[][] pairs = {{0, 0}, {1, 0}, {2, 0}, {3, 0}, {0, 1}, {0, 2}, {0, 3}, {4, 2}, {999, 0}, {999, 999}, {997, 999}};
        for (int[] p : pairs) {
            for (int t = -1; t <= 1; t++) {
                int want = 0;
                for (int kind = 0; kind < 6; kind++) {
                    want |= tip(kind, p[0], p[1]) == t ? 1 << kind : 0;
                }
                x.tipped(1, p[0], p[1], t);
                asked(x, "tipped " + p[0] + " " + p[1] + " " + t, () -> x.who(1), want);
                asked(x, "the other one", () -> x.who(0), 63);
                x.forget(2);
            }
        }
        x.tipped(0, 0, 0, 0);
        x.tipped(1, 0, 0, 1);
        x.tipped(0, 9, 0, 1);
        asked(x, "all of it", () -> x.who(0), 1 + 2);
        x.tipped(0, 8, 0, 1);
        asked(x, "all of it", () -> x.who(0), 1 + 2);
        x.tipped(0, 2, 1, 0);
        asked(x, "all of it", () -> x.who(0), 2);
        asked(x, "all of it", () -> x.who(1), 4);
        bad(x, "balance 2", () -> x.who(2));
        bad(x, "balance -1", () -> x.who(-1));
    }

    private static void lay() {
        at = "29 lay";
        WidowWeight x = new WidowWeight();
        x.balance(4);
        asked(x, "all kinds", () -> x.lay(0), 1);
        x.tipped(0, 0, 0, 0);
        asked(x, "true, stiff, turning, stuck", () -> x.lay(0), 1);
        x.tipped(0, 2, 1, 0);
        asked(x, "stiff, stuck: parted with the right empty alone", () -> x.lay(0), 30);
        x.tipped(0, 9, 0, 1);
        asked(x, "one kind", () -> x.lay(0), 0);
        x.tipped(0, 0, 0, 1);
        asked(x, "no kind", () -> x.lay(0), NONE);
        x.forget(2);
        x.tipped(0, 0, 1, -1);
        asked(x, "true, crossed", () -> x.lay(0), 0);
        x.tipped(0, 0, 2, -1);
        asked(x, "true alone", () -> x.lay(0), 0);
        bad(x, "balance 1", () -> x.lay(1));
        bad(x, "balance -1", () -> x.lay(-1));
    }

    private static void buyers() {
        at = "30 buyers";
        WidowWeight x = with(2, 0, 5, 0, 0, 5, 4, 0, 5);
        asked(x, "nobody has it: how many", () -> x.buyers(0, NONE), 4);
        int[] rest = {0, 1, 10, 11, -5, -5};
        for (int k = 0; k < rest.length; k++) {
            int kk = k;
            asked(x, "pair " + k, () -> x.buyers(0, kk), rest[k]);
        }
        asked(x, "far away", () -> x.buyers(0, Integer.MAX_VALUE), -5);
        asked(x, "one who lends: none rests", () -> x.buyers(1, NONE), 0);
        asked(x, "one who lends: none rests", () -> x.buyers(1, 0), -5);
        refused(x, "keeper 3", () -> x.buyers(3, NONE), -10, 0);
        refused(x, "keeper -1", () -> x.buyers(-1, NONE), -10, 0);
        refused(x, "k -2", () -> x.buyers(0, -2), -10, 0);
        x.visit(1, 0);
        refused(x, "lent", () -> x.buyers(1, NONE), NO, 1);
        refused(x, "lent", () -> x.buyers(1, 5), NO, 1);
        refused(x, "BAD ahead of NO", () -> x.buyers(1, -2), -10, 0);
        x.day(1);
        asked(x, "not lent any more", () -> x.buyers(1, NONE), 0);
    }

    private static void refusals() {
        at = "31 refusals";
        WidowWeight x = by("market;keeper 0 0 5;keeper 1 0 5;keeper 2 0 5;keeper 0 0 5;mood 3 0;");
        chance(x, 1, 0, 3, 7, 10);
        chance(x, 1, 0, 5, 1, 2);
        chance(x, 3, 0, 5, 1, 4);
        chance(x, 3, 0, 2, 16, 25);
        chance(x, 3, 0, 0, 1, 1);
        chance(x, 3, 0, 10, 0, 1);
        chance(x, 3, 0, 9, 1, 100);
        chance(x, 7, 9, 0, 0, 1);
        chance(x, 8, 4, 1, 0, 1);
        chance(x, 8, 5, 1, 9, 10);
        chance(x, 11, 9, 3, 343, 1000);
        chance(x, 0, 9, 10, 1, 1);
        x.visit(0, 0);
        chance(x, 1, 0, 10, 1, 1);
        chance(x, 3, 0, 4, 3, 5);
        chance(x, 5, 9, 0, 0, 1);
        bad(x, "keepers 16", () -> x.refusals(16, 0, 0));
        bad(x, "keepers -1", () -> x.refusals(-1, 0, 0));
        bad(x, "gift -1", () -> x.refusals(1, -1, 0));
        bad(x, "gift 10", () -> x.refusals(1, 10, 0));
        bad(x, "of ten -1", () -> x.refusals(1, 0, -1));
        bad(x, "of ten 11", () -> x.refusals(1, 0, 11));
        WidowWeight y = with(0, 0, 1, 0, 0, 1, 0, 0, 1, 0, 0, 1, 0, 0, 1, 0, 0, 1, 0, 0, 1);
        chance(y, 127, 9, 7, 2187, 10000000);
    }

    private static void chance(WidowWeight x, int keepers, int gift, int c, long above, long below) {
        String call = "refusals " + keepers + " " + gift + " " + c;
        int lent = x.count(3);
        due(call, x.refusals(keepers, gift, c), 1);
        asked(x, call + " above", () -> x.part(0), above);
        asked(x, call + " below", () -> x.part(1), below);
        due("nobody lends by it", x.count(3), lent);
    }

    private static void years() {
        at = "32 years";
        // by seed 1: keepers 3, 4, 5, 1, 6 with gifts 2, 9, 2, 4, 0
        WidowWeight plain = seven(0);
        WidowWeight monday = seven(3);
        WidowWeight merry = seven(2);
        int[] mondays = {0, 1, 2, 2, 2, 2};
        for (int n = 0; n <= 5; n++) {
            int nn = n;
            asked(plain, "plain ones " + n, () -> plain.years(1, nn), n);
            asked(monday, "monday ones " + n, () -> monday.years(1, nn), mondays[n]);
        }
        asked(merry, "merry ones", () -> merry.years(1, 60), 0);
        plain.visit(3, 0);
        asked(plain, "lent now", () -> plain.years(1, 1), 0);
        asked(plain, "lent today only", () -> plain.years(1, 2), 1);
        WidowWeight four = with(0, 0, 1, 0, 0, 1, 0, 0, 1, 0, 0, 1);
        asked(four, "not there", () -> four.years(1, 3), 1);
        asked(four, "not there", () -> four.years(1, 5), 2);
        WidowWeight late = onDay(seven(3), 9999);
        asked(late, "beyond 9999", () -> late.years(1, 4), 1);
        asked(late, "beyond 9999", () -> late.years(1, 5), 2);
        WidowWeight low = by("market;keeper 0 0 1;keeper 0 0 1;mood 1 0;keeper 0 0 1;keeper 0 0 1;mood 3 2;");
        asked(low, "a mood too low", () -> low.years(1, 1), 0);
        asked(low, "a mood that has risen", () -> low.years(1, 4), 1);
        WidowWeight long3 = seven(3);
        for (int seed : new int[] {0, 1, 77, 4096, 31337, 500000, 999999}) {
            asked(long3, "seed " + seed, () -> long3.years(seed, 60), mondayYears(seed));
        }
        bad(plain, "seed -1", () -> plain.years(-1, 0));
        bad(plain, "seed 1000000", () -> plain.years(1000000, 0));
        bad(plain, "-1 days", () -> plain.years(0, -1));
        bad(plain, "61 days", () -> plain.years(0, 61));
        WidowWeight none = new WidowWeight();
        asked(none, "nobody", () -> none.years(999999, 60), 0);
        // a plain one of mood 5 or more lends for any gift, and is not lent on the next day
        WidowWeight willing = seven(0);
        asked(willing, "the longest", () -> willing.years(999999, 60), 60);
        asked(willing, "seed 0", () -> willing.years(0, 60), 60);
    }

    /** Sixty days of seven monday keepers from day 0, by moods alone. */
    private static int mondayYears(int seed) {
        int[] moods = {5, 5, 5, 5, 5, 5, 5};
        long x = seed;
        int lent = 0;
        for (int d = 0; d < 60; d++) {
            x = x * 1103515245L + 12345L & 0x7FFFFFFFL;
            int k = (int) ((x >> 16) % 7);
            int gift = (int) ((x >> 20) % 10);
            if (lends(3, d, moods[k], gift)) {
                lent++;
                moods[k] = Math.min(9, moods[k] + gift / 3);
            } else {
                moods[k] = Math.max(0, moods[k] - 1);
            }
            for (int i = 0; i < 7; i++) {
                moods[i] -= Integer.signum(moods[i] - 5);
            }
        }
        return lent;
    }

    private static WidowWeight seven(int kind) {
        WidowWeight x = new WidowWeight();
        for (int k = 0; k < 7; k++) {
            x.keeper(kind, k, 5);
        }
        return x;
    }

    // ---- what there is

    private static void part() {
        at = "33 part";
        WidowWeight x = with(0, 0, 5);
        due("above", x.part(0), 0);
        due("below", x.part(1), 1);
        x.refusals(1, 0, 4);
        due("above", x.part(0), 3);
        due("below", x.part(1), 5);
        bad(x, "what -1", () -> x.part(-1));
        bad(x, "what 2", () -> x.part(2));
        due("it stays when asked", x.part(0), 3);
        x.refusals(8, 0, 4);
        due("it stays when refused", x.part(1), 5);
    }

    private static void image() {
        at = "34 image";
        WidowWeight x = with(1, 2, 50);
        x.day(1);
        asked(x, "image", () -> x.image(0), 1);
        asked(x, "image", () -> x.image(1), 1);
        bad(x, "image -1", () -> x.image(-1));
        bad(x, "image 2", () -> x.image(2));
        long digest = x.digest();
        x.day(9);
        x.image(1);
        long later = x.digest();
        x.day(9);
        due("from", x.from(0), 1);
        due("as it was", x.digest(), digest);
        due("from", x.from(1), 1);
        due("the later one", x.digest(), later);
        x.keeper(0, 0, 1);
        due("from", x.from(0), 1);
        due("as it was", x.digest(), digest);
        due("undone from an image", x.undo(), 0);
        due("what it is", x.of(0, 2), 50);
        due("an image is not undone", x.from(0), 1);
        due("as it was", x.digest(), digest);
    }

    private static void from() {
        at = "35 from";
        WidowWeight x = with(1, 2, 50, 3, 3, 7);
        x.balance(2);
        x.held(0, 60);
        x.reading(1, 2, 1);
        x.note(0, 1, 2, 3);
        x.tipped(0, 4, 5, 1);
        x.visit(0, 9);
        x.day(1);
        x.visit(1, 9);
        bad(x, "image -1", () -> x.from(-1));
        bad(x, "image 2", () -> x.from(2));
        refused(x, "none kept", () -> x.from(1), NO, 1);
        x.image(0);
        refused(x, "none kept", () -> x.from(1), NO, 1);
        long digest = x.digest();
        x.market();
        due("from", x.from(0), 1);
        due("as it was", x.digest(), digest);
        due("lent", x.of(1, 5), 1);
        due("may be undone", x.count(8), 3);
        x.refusals(1, 9, 1);
        x.type('x');
        x.type('y');
        due("from", x.from(0), 1);
        due("the text is not kept", x.count(9), 2);
        due("the fraction is not kept", x.part(0), 9);
        due("the status is not kept", x.status(1), 2);
        due("the status is not kept", x.status(0), 2);
    }

    private static void status() {
        at = "36 status";
        WidowWeight x = with(0, 0, 5);
        x.keeper(6, 0, 1);
        x.load(0, 0, 0);
        x.round(0, 0);
        x.buyers(0, -2);
        due("BAD", x.status(0), 4);
        x.visit(0, 9);
        x.visit(0, 9);
        x.undo();
        x.undo();
        due("NO", x.status(1), 2);
        for (int i = 0; i < 5; i++) {
            x.balance(0);
        }
        due("FULL", x.status(2), 1);
        due("BAD", x.status(0), 4);
        due("another", x.status(3), -1);
        due("another", x.status(-1), -1);
        due("they count as BAD", x.status(0), 6);
        x.round(1, 7);
        x.load(99, 0, 0);
        x.gain(99, 0);
        x.off(0, 1);
        x.read();
        x.lift();
        x.buyers(0, 99);
        due("NONE, a fault, not so many are no refusals", x.status(0), 6);
        due("NONE, a fault, not so many are no refusals", x.status(1), 2);
        due("NONE, a fault, not so many are no refusals", x.status(2), 1);
        x.market();
        due("a market at first keeps them", x.status(0), 6);
        x.count(10);
        due("count", x.status(0), 7);
        x.part(2);
        due("part", x.status(0), 8);
    }

    private static void count() {
        at = "37 count";
        WidowWeight x = with(0, 0, 5, 0, 0, 6, 1, 0, 7);
        x.balance(0);
        x.balance(1);
        x.day(4);
        x.visit(0, 9);
        x.visit(1, 9);
        x.visit(2, 9);
        x.undo();
        x.reading(1, 0, 1);
        for (int i = 0; i < 2; i++) {
            x.note(0, 1, 1, 1);
        }
        for (int i = 0; i < 4; i++) {
            x.tipped(0, 1, 1, 0);
        }
        for (int i = 0; i < 5; i++) {
            x.type(0);
        }
        int[] due = {3, 2, 4, 2, 16, 1, 2, 4, 3, 5};
        for (int what = 0; what <= 9; what++) {
            int w = what;
            asked(x, "count " + what, () -> x.count(w), due[what]);
        }
        bad(x, "count -1", () -> x.count(-1));
        bad(x, "count 10", () -> x.count(10));
    }

    private static void digest() {
        at = "38 digest";
        due("a new object", new WidowWeight().digest(),
            mixed(0, 0, 0, 0, 0, 0, 0, 0, 0, 0, 0, 1));
        WidowWeight x = with(1, 2, 50, 3, 9, 7);
        x.balance(2);
        x.balance(5);
        x.held(0, 60);
        x.reading(1, 2, -1);
        x.reading(2, 0, 1);
        x.note(0, 1, 2, 3);
        x.note(1, 4, 5, 6);
        x.tipped(1, 4, 5, 1);
        x.tipped(0, 6, 7, -1);
        x.tipped(0, 8, 9, 0);
        x.refusals(3, 9, 3);
        x.day(1);
        x.visit(1, 9);
        x.type('a');
        due("one with all", x.digest(), mixed(2, 2, 1, 1, 56, 2, 2, 3, 2, 1, 1, 2, 49, 60, 5, 0, 3, 9, 7, 7, 8, 1, 2, 5,
            1, 2, -1, 2, 0, 1, 0, 1, 2, 3, 1, 4, 5, 6, 1, 4, 5, 1, 0, 6, 7, -1, 0, 8, 9, 0, 49, 100));
        due("asked again", x.digest(), x.digest());
        due("nothing refused", x.status(0), 0);
    }

    private static long mixed(long... all) {
        long h = 1481;
        for (long v : all) {
            h = 31 * h + v;
        }
        return h;
    }

    private static void hugeNumbers() {
        at = "huge numbers";
        int[] huge = {Integer.MIN_VALUE, Integer.MAX_VALUE, -1000000007, 1 << 30, -128, 128};
        WidowWeight x = with(0, 0, 5, 1, 11, 250);
        x.balance(0);
        for (int h : huge) {
            LongSupplier[] calls = {() -> x.keeper(h, h, h), () -> x.keeper(0, h, 1), () -> x.keeper(0, 0, h << 1 | h),
                () -> x.held(h, 1), () -> x.balance(h), () -> x.type(h), () -> x.visit(h, 0), () -> x.visit(0, h),
                () -> x.day(h), () -> x.of(h, 0), () -> x.of(0, h), () -> x.then(h, 0), () -> x.then(0, h),
                () -> x.off(h, 1), () -> x.off(0, h), () -> x.gifts(h), () -> x.tips(h, 0, 0), () -> x.tips(0, h, 0),
                () -> x.tips(0, 0, h), () -> x.reading(h, 0, 0), () -> x.reading(0, h, 0), () -> x.reading(0, 0, h),
                () -> x.maybe(h), () -> x.note(h, 1, 1, 1), () -> x.note(0, 1, h, 1), () -> x.tipped(h, 0, 0, 0),
                () -> x.tipped(0, 0, 0, h), () -> x.forget(h), () -> x.is(h), () -> x.watch(h), () -> x.who(h),
                () -> x.lay(h), () -> x.refusals(h, 0, 0), () -> x.refusals(0, h, 0), () -> x.refusals(0, 0, h),
                () -> x.years(0, h), () -> x.part(h), () -> x.image(h), () -> x.from(h), () -> x.count(h)};
            for (int i = 0; i < calls.length; i++) {
                if (h != 128 || i != 2) {
                    bad(x, "call " + i + " of " + h, calls[i]);
                }
            }
            refused(x, "status", () -> x.status(h), -1, 0);
            refused(x, "round", () -> x.round(h, -1), -10, 0);
            refused(x, "buyers", () -> x.buyers(h, -1), -10, 0);
            bad20(x, "load", () -> x.load(1, h, 0));
            bad20(x, "gain", () -> x.gain(1, h));
        }
    }
}
