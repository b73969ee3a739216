import java.util.ArrayList;
import java.util.List;

/** Two objects made alike, one of them called: what a call must leave as it was has to look alike in both. */
final class Twins {
    static final int ASKED = -1, AS_BAD = 0, AS_NO = 1, AS_FULL = 2;

    private static String sentence = "";

    private Twins() {
    }

    interface Start {
        WidowWeight make();
    }

    interface Call {
        long on(WidowWeight x);
    }

    interface CallWith {
        long on(WidowWeight x, int number);
    }

    /** All that is checked from here on belongs to this sentence of the document. */
    static void sentence(String told) {
        sentence = told;
    }

    static void due(String what, long got, long want) {
        Check.due(sentence + ": " + what, got, want);
    }

    // ---- ways to start

    static WidowWeight bare() {
        return new WidowWeight();
    }

    /** Three keepers, two balances, some of all else, room for more; the stone of keeper 0 is lent. */
    static WidowWeight some() {
        WidowWeight x = new WidowWeight();
        x.keeper(1, 3, 9);
        x.keeper(3, 7, 250);
        x.keeper(5, 11, 1);
        x.balance(1);
        x.balance(5);
        x.held(1, 240);
        type(x, "market;keeper 1 2 33;mood 0 7;days 5;");
        x.image(0);
        x.reading(1, 2, -1);
        x.note(0, 9, 0, 8);
        x.tipped(1, 4, 5, -1);
        x.refusals(3, 5, 3);
        x.undo();
        x.of(9, 9);
        x.visit(2, 3);
        x.day(1);
        x.visit(0, 4);
        return x;
    }

    /** No room for anything more; the stones of keepers 0, 1, 6 are lent. */
    static WidowWeight full() {
        WidowWeight x = new WidowWeight();
        for (int k = 0; k < 7; k++) {
            x.keeper(k % 6, k, 10 * (k + 1));
        }
        for (int b = 0; b < 4; b++) {
            x.balance(b + 1);
        }
        for (int i = 0; i < 6; i++) {
            x.reading(1 << i, 64, i % 3 - 1);
            x.note(i, 10, i, 9 + i % 2);
            x.tipped(i % 4, i, 2, i % 3 - 1);
        }
        String text = "market;keeper 4 11 99;balance 5;mood 0 9;days 99;";
        type(x, text + " ".repeat(150 - text.length()));
        x.keeper(0, 0, 1);
        x.of(7, 0);
        x.undo();
        x.refusals(1, 9, 9);
        x.image(0);
        x.day(2);
        x.day(99);
        x.day(3);
        x.visit(2, 1);
        x.image(1);
        x.day(1);
        x.visit(2, 9);
        x.visit(0, 9);
        x.visit(6, 0);
        x.visit(1, 9);
        return x;
    }

    static void type(WidowWeight x, String text) {
        for (int i = 0; i < text.length(); i++) {
            x.type(text.charAt(i));
        }
    }

    static int read(WidowWeight x, String text) {
        x.clear();
        type(x, text);
        return x.read();
    }

    /** A market told by a text that must be fine. */
    static WidowWeight told(String text) {
        WidowWeight x = new WidowWeight();
        int items = 0;
        for (int i = 0; i < text.length(); i++) {
            items += text.charAt(i) == ';' ? 1 : 0;
        }
        due("the items of " + text, read(x, text), items);
        return x;
    }

    static WidowWeight onDay(WidowWeight x, int day) {
        while (x.count(2) < day) {
            x.day(Math.min(99, day - x.count(2)));
        }
        due("the day", x.count(2), day);
        return x;
    }

    // ---- what is left as it was

    /** The call answers so, is counted in STATUS as told and nowhere else, and leaves all the rest as it was. */
    static void leaves(Start start, String call, Call made, long want, int counted) {
        WidowWeight called = start.make();
        WidowWeight left = start.make();
        due(call, made.on(called), want);
        for (int what = 0; what <= 2; what++) {
            due(call + ", status " + what, called.status(what), left.status(what) + (what == counted ? 1 : 0));
        }
        due(call + " leaves all as it was", seen(called).equals(seen(left)) ? 1 : 0, 1);
    }

    static void bad(Start start, String call, Call made) {
        leaves(start, call, made, WidowWeight.BAD, AS_BAD);
    }

    static void no(Start start, String call, Call made) {
        leaves(start, call, made, WidowWeight.NO, AS_NO);
    }

    static void full(Start start, String call, Call made) {
        leaves(start, call, made, WidowWeight.FULL, AS_FULL);
    }

    static void asked(Start start, String call, Call made, long want) {
        leaves(start, call, made, want, ASKED);
    }

    /** All that can still be seen, to the end: the market, what may be undone, the images, the text. */
    private static List<Long> seen(WidowWeight x) {
        List<Long> all = new ArrayList<>();
        seeMarket(all, x);
        for (int i = 0; i <= 1; i++) {
            all.add((long) x.from(i));
            seeMarket(all, x);
        }
        all.add((long) x.read());
        seeMarket(all, x);
        return all;
    }

    private static void seeMarket(List<Long> all, WidowWeight x) {
        all.add(x.digest());
        for (int i = 0; i < 9; i++) {
            all.add((long) x.undo());
            all.add(x.digest());
        }
    }

    // ---- ranges

    /** first .. last are allowed; those beside them and far away are refused as BAD, ahead of all else. */
    static void range(Start start, String call, CallWith made, int first, int last, int badAnswer) {
        for (int v : new int[] {first, last}) {
            WidowWeight x = start.make();
            int were = x.status(0);
            due(call + " " + v + " is not refused as BAD", made.on(x, v) == badAnswer ? 1 : 0, 0);
            due(call + " " + v + " is not counted as BAD", x.status(0), were);
        }
        outside(start, call, made, first - 1, badAnswer);
        outside(start, call, made, Integer.MIN_VALUE, badAnswer);
        if (last < Integer.MAX_VALUE) {
            outside(start, call, made, last + 1, badAnswer);
            outside(start, call, made, Integer.MAX_VALUE, badAnswer);
        }
    }

    static void outside(Start start, String call, CallWith made, int v, int badAnswer) {
        leaves(start, call + " " + v, x -> made.on(x, v), badAnswer, AS_BAD);
    }

    /** The number of a keeper: none where there are none, 0 .. 2 of three, 0 .. 6 of seven. */
    static void keepers(String call, CallWith made, int badAnswer) {
        outside(Twins::bare, call + " of nobody", made, 0, badAnswer);
        outside(Twins::bare, call + " of nobody", made, -1, badAnswer);
        range(Twins::some, call + " of three", made, 0, 2, badAnswer);
        range(Twins::full, call + " of seven", made, 0, 6, badAnswer);
    }

    static void balances(String call, CallWith made, int badAnswer) {
        outside(Twins::bare, call + " of none", made, 0, badAnswer);
        outside(Twins::bare, call + " of none", made, -1, badAnswer);
        range(Twins::some, call + " of two", made, 0, 1, badAnswer);
        range(Twins::full, call + " of four", made, 0, 3, badAnswer);
    }

    /** Stones or keepers as bits; least is 0 where none may be told, else 1. */
    static void bits(String call, CallWith made, int least, int badAnswer) {
        if (least == 0) {
            range(Twins::bare, call + " of nobody", made, 0, 0, badAnswer);
        } else {
            outside(Twins::bare, call + " of nobody", made, 0, badAnswer);
            outside(Twins::bare, call + " of nobody", made, 1, badAnswer);
        }
        range(Twins::some, call + " of three", made, least, 7, badAnswer);
        range(Twins::full, call + " of seven", made, least, 127, badAnswer);
    }
}
