import java.util.ArrayList;
import java.util.List;
import java.util.function.Supplier;
import java.util.function.ToLongFunction;

/**
 * Two objects that are made alike: a call that must leave all as it was is made on one of them, and
 * whatever they tell from then on must be alike.
 */
final class Twins {
    private final Due d;

    Twins(Due d) {
        this.d = d;
    }

    /** A call that is REFUSED: its answer, status(), how many were, and that all else stays. */
    void refused(String what, Supplier<ItByRhyme> make, ToLongFunction<ItByRhyme> call, int by) {
        ItByRhyme x = make.get();
        ItByRhyme twin = make.get();
        d.due(what, call.applyAsLong(x), by);
        d.due(what + ": status()", x.status(), by);
        alikeBut(what, x, twin, by);
        d.dues(what + ": texts", texts(x), texts(twin));
        alikeFromHere(what, x, twin);
    }

    /** A REFUSED call that read the TAPE: that is empty then, FAULT and where it stopped are told. */
    void refusedText(String what, Supplier<ItByRhyme> make, ToLongFunction<ItByRhyme> call, int by, int fault, int stopped) {
        ItByRhyme x = make.get();
        ItByRhyme twin = make.get();
        twin.end(0);
        d.due(what, call.applyAsLong(x), by);
        d.due(what + ": status()", x.status(), by);
        alikeBut(what, x, twin, by);
        d.dues(what + ": texts", texts(x), 0, fault, stopped, twin.lisps());
        alikeFromHere(what, x, twin);
    }

    /** A call that only tells: its answer, and that nothing was changed or counted by it. */
    void tells(String what, Supplier<ItByRhyme> make, ToLongFunction<ItByRhyme> call, long want) {
        ItByRhyme x = make.get();
        ItByRhyme twin = make.get();
        d.due(what, call.applyAsLong(x), want);
        d.due(what + ": status()", x.status(), twin.status());
        alikeBut(what, x, twin, 0);
        d.dues(what + ": texts", texts(x), texts(twin));
        alikeFromHere(what, x, twin);
    }

    private void alikeBut(String what, ItByRhyme x, ItByRhyme twin, int by) {
        int[] reasons = {-1, -2, -3, -5, -6};
        for (int k = 0; k < 5; k++) {
            int more = reasons[k] == by ? 1 : 0;
            d.due(what + ": how many by " + reasons[k], x.count(6 + k), twin.count(6 + k) + more);
        }
    }

    private void alikeFromHere(String what, ItByRhyme x, ItByRhyme twin) {
        alike(what, x, twin);
        for (int i = 0; i < 17; i++) d.due(what + ": undo " + i, x.undo(), twin.undo());
        alike(what + ": all undone", x, twin);
        for (int k = 0; k < 2; k++) {
            d.due(what + ": back " + k, x.back(k), twin.back(k));
            alike(what + ": back to " + k, x, twin);
        }
    }

    private void alike(String what, ItByRhyme x, ItByRhyme twin) {
        List<String> got = told(x);
        List<String> want = told(twin);
        for (int i = 0; i < got.size(); i++) {
            d.due(what + ": " + want.get(i) + " is " + got.get(i), got.get(i).equals(want.get(i)) ? 1 : 0, 1);
        }
    }

    private static long[] texts(ItByRhyme x) {
        return new long[] {x.count(5), x.fault(), x.stopped(), x.lisps()};
    }

    /** What an object tells of its ring, by some sixty calls: four times that is well below 512. */
    private static List<String> told(ItByRhyme x) {
        List<String> all = new ArrayList<>();
        for (int k : new int[] {0, 1, 2, 3, 4, 11, 12, 13, 14, 15}) all.add("count(" + k + ") " + x.count(k));
        for (int c = 0; c < 6; c++) {
            all.add("of(" + c + ", 0) " + x.of(c, 0));
            all.add("of(" + c + ", 1) " + x.of(c, 1));
            all.add("drawn(" + c + ", 0) " + x.drawn(c, 0));
            all.add("drawn(" + c + ", 1) " + x.drawn(c, 1));
            all.add("asks(0, " + c + ", 1, 0) " + x.asks(0, c, 1, 0));
        }
        for (int r = 0; r < 5; r++) {
            all.add("beats(" + r + ") " + x.beats(r));
            all.add("left(" + r + ", NONE) " + x.left(r, -1));
            all.add("falls(" + r + ", 1) " + x.falls(r, 1));
        }
        all.add("compare(1, 0) " + x.compare(1, 0));
        all.add("chances(0, 3) " + x.chances(0, 3));
        return all;
    }

    /** Of everything something: two images, what can be undone, quarters, lisps, a fault, a stop. */
    static ItByRhyme rich() {
        ItByRhyme x = new ItByRhyme();
        Due.put(x, "\3\4x");
        x.row();
        x.rhyme(4);
        x.image(1);
        x.child(9);
        x.child(0);
        x.rhyme(7);
        Due.law(x, "beats 3+child");
        Due.law(x, "keeps if child=mood;beats 5 if round>2");
        x.force(1);
        x.terms(0, 3);
        x.terms(3, 2);
        x.terms(2, 4);
        x.terms(1, 5);
        x.image(0);
        x.quarters(77, 23);
        x.leave(3);
        x.say(0);
        x.pass();
        x.leave(1);
        x.say(1);
        x.join(1);
        Due.orders(x, "pass;join 0");
        Due.law(x, "skips ?");
        Due.put(x, "abcdefg");
        return x;
    }

    /** No room for more, of anything; nobody is IN, and it is the last ROUND. */
    static ItByRhyme full() {
        ItByRhyme x = Due.ring(6, 15, 1, 2, 3, 4);
        for (int l = 0; l < 6; l++) Due.law(x, "beats " + (l + 1));
        x.force(5);
        x.terms(0, 999);
        x.terms(1, 5);
        x.terms(2, 10);
        x.terms(3, 9);
        for (int i = 0; i < 5; i++) {
            x.leave(1);
            x.join(1);
        }
        for (int c = 0; c < 6; c++) x.leave(c);
        return x;
    }

    /** Whom Due.put() can't fill: a TAPE of 400 bytes. */
    static ItByRhyme fullTape() {
        ItByRhyme x = rich();
        x.end(0);
        for (int i = 0; i < 20; i++) x.feed(0x01010101, 0x20202020, i, i, i);
        return x;
    }
}
