import java.lang.reflect.InvocationTargetException;
import java.lang.reflect.Method;
import java.lang.reflect.Modifier;
import java.util.function.Supplier;
import java.util.function.ToLongFunction;

/**
 * Each sentence of the document that names a boundary of images, counts, statuses, and of what a
 * call is REFUSED by: I, IV, promises 32 to 35. The parts quote the sentences.
 */
public final class EdgesOfCallsTest {
    private static final Due d = new Due();
    private static final Twins twins = new Twins(d);
    private static final int LEAST = Integer.MIN_VALUE;
    private static final int MOST = Integer.MAX_VALUE;

    public static void main(String[] args) throws IllegalAccessException {
        firstInThatOrder();
        imageEdges();
        backEdges();
        imagesKeep();
        imagesKeepNot();
        imagesStay();
        imagesEmptyAndFull();
        counts();
        refusedCounts();
        statusOfEach();
        statusOfNoOther();
        noSuchChild();
        anyNumbers();
        d.close();
    }

    private static ItByRhyme with(ItByRhyme x, String tape) {
        x.end(0);
        Due.put(x, tape);
        return x;
    }

    private static void firstInThatOrder() {
        d.part("I: The first of these in that order.");
        d.due("-1 ahead of -5: child", Twins.full().child(10), -1);
        d.due("-1 ahead of -5: rhyme", Twins.full().rhyme(0), -1);
        d.due("-1 ahead of -3: quarters", new ItByRhyme().quarters(-1, 1), -1);
        d.due("-1 ahead of -3: quarters", new ItByRhyme().quarters(0, 61), -1);
        d.due("-1 ahead of -2: back", new ItByRhyme().back(2), -1);
        d.due("-2 ahead of -3: say", Twins.full().say(5), -2);
        d.due("-2 ahead of -3: say, of nobody", new ItByRhyme().say(0), -2);
        d.due("-5 ahead of -6: law", with(Twins.full(), "?").law(), -5);
        d.due("-5 ahead of -6: law, an empty tape", Twins.full().law(), -5);
        d.due("-3 of orders for what say() calls -2", with(Twins.full(), "say 9").orders(), -3);
    }

    private static void imageEdges() {
        d.part("32: IMAGE k is kept: 0; -1.");
        ItByRhyme x = new ItByRhyme();
        d.due("0", x.image(0), 0);
        d.due("1", x.image(1), 0);
        d.due("again", x.image(0), 0);
        for (int k : new int[] {-1, 2, LEAST, MOST}) twins.refused("image(" + k + ")", Twins::rich, o -> o.image(k), -1);
    }

    private static void backEdges() {
        d.part("33: BACK to IMAGE k: 0. -1; -2 it was not kept.");
        for (int k : new int[] {-1, 2, LEAST, MOST}) {
            twins.refused("back(" + k + ")", Twins::rich, o -> o.back(k), -1);
            twins.refused("back(" + k + "), none kept", Twins::full, o -> o.back(k), -1);
        }
        for (int k = 0; k < 2; k++) {
            int other = 1 - k;
            int kept = k;
            twins.refused("back(" + k + "), none kept", Twins::full, o -> o.back(kept), -2);
            Supplier<ItByRhyme> make = () -> {
                ItByRhyme x = Twins.full();
                x.image(other);
                return x;
            };
            twins.refused("back(" + k + "), the other one kept", make, o -> o.back(kept), -2);
            d.due("back(" + other + ")", make.get().back(other), 0);
        }
    }

    private static long[] ringOf(ItByRhyme x) {
        long[] all = new long[43];
        int n = 0;
        for (int k : new int[] {0, 1, 2, 3, 11, 12, 13, 14, 15}) all[n++] = x.count(k);
        for (int c = 0; c < 6; c++) {
            all[n++] = x.of(c, 0);
            all[n++] = x.of(c, 1);
            all[n++] = x.asks(0, c, 1, 0);
        }
        for (int r = 0; r < 5; r++) all[n++] = x.beats(r);
        for (int l = -1; l < 6; l++) all[n++] = x.compare(l, 0);
        all[n++] = x.falls(0, 0);
        all[n++] = x.falls(0, 1);
        all[n++] = x.chances(0, 3);
        all[n] = x.game(0);
        return all;
    }

    private static void imagesKeep() {
        d.part("IV: BACK to one all that it keeps is as it was then");
        for (int k = 0; k < 2; k++) {
            ItByRhyme x = Twins.rich();
            x.end(0);
            x.image(k);
            long[] then = ringOf(x);
            x.child(7);
            x.rhyme(15);
            Due.law(x, "beats 2");
            x.force(2);
            x.pass();
            x.say(1);
            x.leave(0);
            x.terms(0, 999);
            x.terms(1, 4);
            x.terms(2, 9);
            x.terms(3, 8);
            long[] now = ringOf(x);
            d.due("another ring now", then[0] == now[0] || then[3] == now[3] || then[5] == now[5] ? 1 : 0, 0);
            d.due("back", x.back(k), 0);
            d.dues("image " + k, ringOf(x), then);
            d.due("its numbers are given again", x.child(2), 4);
            d.due("its numbers are given again", x.rhyme(2), 2);
            d.due("its numbers are given again", Due.law(x, "turns"), 2);
        }
    }

    private static void imagesKeepNot() {
        d.part("IV: all but the TAPE, FAULT, LISPS, where ORDERS stopped, what can be undone (nothing, behind back()), the latest QUARTERS");
        for (int k = 0; k < 2; k++) {
            ItByRhyme x = Due.ring(3, 1);
            x.pass();
            x.image(k);
            d.due("image leaves what can be undone", x.count(4), 1);
            x.leave(0);
            Due.put(x, "\1zz");
            x.row();
            Due.orders(x, "pass;pass;join 0");
            Due.law(x, "keeps !");
            x.quarters(3, 2);
            x.pass();
            x.child(77);
            Due.put(x, "abc");
            d.due("back", x.back(k), 0);
            d.dues("TAPE, FAULT, LISPS, stopped", new long[] {x.count(5), x.fault(), x.lisps(), x.stopped()}, 3, 6, 2, 2);
            d.dues("what can be undone: nothing", new long[] {x.count(4), x.undo()}, 0, -3);
            d.dues("quarters, of four", new long[] {x.drawn(0, 1), x.drawn(1, 1), x.drawn(2, 1), x.drawn(3, 1)}, 0, 0, 0, 1);
            d.dues("how many were refused", new long[] {x.count(6), x.count(7), x.count(8), x.count(9), x.count(10)}, 1, 0, 2, 0, 1);
            d.due("the TAPE's bytes", x.end(1), 1);
            d.dues("an a is a lisp", new long[] {x.row(), x.lisps()}, 0, 1);
            x.leave(1);
            d.due("what comes behind it can be undone", x.undo(), 2);
            d.due("and no more", x.undo(), -3);
        }
    }

    private static void imagesStay() {
        d.part("IV: (IMAGES stay)");
        ItByRhyme x = Due.ring(1, 1);
        x.image(0);
        x.child(2);
        x.image(1);
        x.child(3);
        d.dues("children", new long[] {x.count(0), x.back(0), x.count(0), x.back(1), x.count(0), x.back(0), x.count(0)}, 3, 0, 1, 0, 2, 0, 1);
        x.child(9);
        x.child(9);
        x.child(9);
        d.dues("back again", new long[] {x.count(0), x.back(1), x.count(0), x.of(1, 0), x.back(0), x.count(0)}, 4, 0, 2, 2, 0, 1);
        x.image(1);
        x.child(9);
        d.dues("the newer one", new long[] {x.back(1), x.count(0)}, 0, 1);
        d.due("refused ones keep nothing", x.image(2), -1);
        x.child(8);
        x.image(-1);
        d.dues("as it was", new long[] {x.back(1), x.count(0), x.back(0), x.count(0)}, 0, 1, 0, 1);
    }

    private static void imagesEmptyAndFull() {
        d.part("33: the empty one and the full one");
        ItByRhyme x = new ItByRhyme();
        x.image(0);
        for (int c = 0; c < 6; c++) x.child(c);
        for (int r = 0; r < 5; r++) x.rhyme(r + 1);
        for (int l = 0; l < 6; l++) Due.law(x, "beats " + (l + 2));
        x.force(5);
        x.image(1);
        d.due("back to the empty one", x.back(0), 0);
        d.dues("empty", new long[] {x.count(0), x.count(1), x.count(2), x.count(3), x.count(11), x.of(0, 0), x.beats(0), x.force(0)},
            0, 0, 0, 0, -1, -1, -1, -2);
        d.due("there is room again", x.child(8), 0);
        d.due("there is room again", x.rhyme(8), 0);
        d.due("there is room again", Due.law(x, "beats 8"), 0);
        d.due("back to the full one", x.back(1), 0);
        d.dues("full", new long[] {x.child(1), x.rhyme(1), Due.law(x, "keeps"), x.count(11), x.asks(0, 0, 0, 0)}, -5, -5, -5, 5, 7);
        d.dues("its first ones, not those given since", new long[] {x.of(0, 0), x.beats(0), x.force(0), x.asks(0, 0, 0, 0)}, 0, 1, 5, 2);
        d.dues("its last ones", new long[] {x.of(5, 0), x.beats(4), x.asks(4, 5, 0, 0)}, 5, 5, 2);
    }

    private static void counts() {
        d.part("34: NONE for others");
        for (int what : new int[] {-1, 16, LEAST, MOST}) twins.tells("count(" + what + ")", Twins::rich, o -> o.count(what), -1);
        ItByRhyme x = Twins.full();
        long[] want = {6, 0, 5, 6, 16, 0, 0, 0, 0, 0, 0, 5, 999, 5, 10, 9};
        for (int k = 0; k < 16; k++) d.due("full: count(" + k + ")", x.count(k), want[k]);
        for (int i = 0; i < 20; i++) x.feed(1, 1, 1, 1, 1);
        d.due("full: bytes", x.count(5), 400);
        ItByRhyme y = new ItByRhyme();
        long[] first = {0, 0, 0, 0, 0, 0, 0, 0, 0, 0, 0, -1, 0, 0, 1, 0};
        for (int k = 0; k < 16; k++) d.due("empty: count(" + k + ")", y.count(k), first[k]);
    }

    private static void refusedCounts() {
        d.part("34: 6 .. 10 how many calls were REFUSED by -1, -2, -3, -5, -6 (IMAGES do not keep that)");
        ItByRhyme x = Twins.full();
        x.image(0);
        for (int i = 1; i <= 5; i++) {
            x.child(-1);
            for (int j = 0; j < 2; j++) x.force(6);
            for (int j = 0; j < 3; j++) x.say(0);
            for (int j = 0; j < 4; j++) x.child(0);
            for (int j = 0; j < 5; j++) x.row();
            d.dues("refused", new long[] {x.count(6), x.count(7), x.count(8), x.count(9), x.count(10)}, i, 2 * i, 3 * i, 4 * i, 5 * i);
        }
        x.back(0);
        d.dues("behind back", new long[] {x.count(6), x.count(7), x.count(8), x.count(9), x.count(10)}, 5, 10, 15, 20, 25);
    }

    private static void refused(String what, Supplier<ItByRhyme> make, ToLongFunction<ItByRhyme> call, int by) {
        ItByRhyme x = make.get();
        d.due(what, call.applyAsLong(x), by);
        d.due(what + ": status", x.status(), by);
        x.image(0);
        d.due("0 behind one that was not", x.status(), 0);
    }

    private static void taken(String what, ItByRhyme x, ToLongFunction<ItByRhyme> call) {
        x.image(7);
        d.due("refused ahead of it", x.status(), -1);
        d.due(what + " is not refused", call.applyAsLong(x) >= -1 ? 1 : 0, 1);
        d.due(what + ": status", x.status(), 0);
    }

    private static void statusOfEach() {
        d.part("35: What the latest call of child, rhyme, terms, .. was REFUSED by; 0 if it was not, or ahead of any");
        d.due("ahead of any", new ItByRhyme().status(), 0);
        refused("child", Twins::rich, o -> o.child(10), -1);
        refused("child", Twins::full, o -> o.child(0), -5);
        refused("rhyme", Twins::rich, o -> o.rhyme(0), -1);
        refused("rhyme", Twins::full, o -> o.rhyme(1), -5);
        refused("terms", Twins::rich, o -> o.terms(4, 0), -1);
        refused("row", Twins::full, ItByRhyme::row, -6);
        refused("law", Twins::full, ItByRhyme::law, -5);
        refused("law", Twins::rich, ItByRhyme::law, -6);
        refused("orders", Twins::rich, ItByRhyme::orders, -6);
        refused("orders", () -> with(Twins.full(), "pass"), ItByRhyme::orders, -3);
        refused("force", Twins::rich, o -> o.force(2), -2);
        refused("say", Twins::rich, o -> o.say(2), -2);
        refused("say", Twins::full, o -> o.say(0), -3);
        refused("join", Twins::rich, o -> o.join(4), -2);
        refused("join", () -> Due.ring(1), o -> o.join(0), -3);
        refused("leave", Twins::rich, o -> o.leave(-1), -2);
        refused("leave", Twins::full, o -> o.leave(0), -3);
        refused("pass", Twins::full, ItByRhyme::pass, -3);
        refused("undo", ItByRhyme::new, ItByRhyme::undo, -3);
        refused("quarters", Twins::rich, o -> o.quarters(0, 0), -1);
        refused("quarters", ItByRhyme::new, o -> o.quarters(0, 1), -3);
        refused("image", Twins::rich, o -> o.image(2), -1);
        refused("back", Twins::rich, o -> o.back(-1), -1);
        refused("back", ItByRhyme::new, o -> o.back(1), -2);
        taken("child", Twins.rich(), o -> o.child(0));
        taken("rhyme", Twins.rich(), o -> o.rhyme(1));
        taken("terms", Twins.rich(), o -> o.terms(0, 0));
        taken("row", Twins.rich(), ItByRhyme::row);
        taken("law", with(Twins.rich(), "keeps"), ItByRhyme::law);
        taken("orders", with(Twins.rich(), "pass if 1=2"), ItByRhyme::orders);
        taken("force", new ItByRhyme(), o -> o.force(-1));
        taken("say", Twins.rich(), o -> o.say(0));
        taken("join", Twins.full(), o -> o.join(0));
        taken("leave", Due.ring(1), o -> o.leave(0));
        taken("pass", new ItByRhyme(), ItByRhyme::pass);
        taken("undo", Twins.full(), ItByRhyme::undo);
        taken("quarters", Twins.rich(), o -> o.quarters(0, 1));
        taken("image", Twins.rich(), o -> o.image(1));
        taken("back", Twins.rich(), o -> o.back(1));
    }

    /** Calls that only tell, feed() and end() are none of those that status() tells of. */
    private static void statusOfNoOther() {
        d.part("35: no other call");
        for (int ahead : new int[] {0, -1}) {
            ItByRhyme x = Twins.rich();
            x.image(ahead);
            x.of(9, 9);
            x.of(0, 0);
            x.beats(9);
            x.asks(9, 9, 9, 9);
            x.feed(0, 0, 0, 0, 0);
            x.end(-1);
            x.end(0);
            x.lisps();
            x.fault();
            x.stopped();
            x.falls(9, 9);
            x.left(9, 9);
            x.safe(9, 9);
            x.alone(9, 9);
            x.game(9);
            x.chances(9, 99);
            x.said(9, 9, 9);
            x.compare(9, 9);
            x.drawn(9, 9);
            x.count(99);
            d.due("status", x.status(), ahead);
            d.due("status again", x.status(), ahead);
            d.due("refused", x.count(6), Twins.rich().count(6) - ahead);
        }
    }

    /** Numbers that a shift by so many bits, or an index, could take for one of the CHILDREN's. */
    private static void noSuchChild() {
        d.part("I: -2 there is no such CHILD");
        ItByRhyme x = Due.ring(2, 2, 1);
        x.quarters(3, 1);
        for (int n : new int[] {2, 5, 6, 31, 32, 33, 64, 256, -1, -31, -32, LEAST, LEAST + 1, MOST, MOST - 30}) {
            d.dues("of " + n, new long[] {x.of(n, 0), x.of(n, 1), x.asks(0, n, 1, 0), x.asks(0, n, 1, 1)}, -1, -1, -1, -1);
            d.dues("on paper " + n, new long[] {x.safe(n, 0), x.alone(n, -1), x.alone(n, 0), x.chances(n, 0), x.chances(n, 1)},
                -1, -1, -1, -1, -1);
            d.dues("drawn " + n, new long[] {x.drawn(n, 0), x.drawn(n, 1)}, -1, -1);
            d.dues("moves " + n, new long[] {x.join(n), x.leave(n), x.status(), x.count(1)}, -2, -2, -2, 2);
        }
        d.dues("those that are", new long[] {x.alone(0, -1), x.alone(1, -1), x.chances(1, 0)}, 1, 1, 1000000000000L);
    }

    /** No numbers, in no state, may make a call fail. */
    private static void anyNumbers() throws IllegalAccessException {
        d.part("any numbers");
        int[] numbers = {LEAST, LEAST + 1, -1000, -2, -1, 0, 1, 5, 6, 16, 61, 1000, 1000001, MOST - 1, MOST};
        for (Method m : ItByRhyme.class.getDeclaredMethods()) {
            if (!Modifier.isPublic(m.getModifiers())) continue;
            int n = m.getParameterCount();
            for (int state = 0; state < 4; state++) {
                ItByRhyme x = state == 0 ? new ItByRhyme() : state == 1 ? Twins.rich() : state == 2 ? Twins.full() : Twins.fullTape();
                for (int i = 0; i < 400; i++) {
                    Object[] given = new Object[n];
                    int rest = i * 7919;
                    for (int k = 0; k < n; k++, rest = rest / 3 + i) given[k] = numbers[rest % numbers.length];
                    try {
                        m.invoke(x, given);
                    } catch (InvocationTargetException e) {
                        d.due(m.getName() + " of state " + state + " failed by " + e.getCause(), 1, 0);
                    }
                }
            }
        }
    }
}
