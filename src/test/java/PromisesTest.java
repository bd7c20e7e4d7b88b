/** Promises 1 to 11, 16 to 22, 32 to 35: the ring, its sayings, undoing, images, counts. */
public final class PromisesTest {
    private static final Due d = new Due();

    public static void main(String[] args) {
        newObject();
        childAndOf();
        rhymeAndBeats();
        asksOfALaw();
        asksWhateverWasAsked();
        termsAndTheirEdges();
        feedAndEnd();
        rowAndLisps();
        forceALaw();
        sayAndFalls();
        sayByALaw();
        joinLeavePass();
        undoSixteen();
        undoIsCut();
        imageAndBack();
        imagesOfOtherRings();
        counts();
        statusOfEach();
        d.close();
    }

    private static void newObject() {
        d.part("1");
        ItByRhyme x = new ItByRhyme();
        long[] zeros = {0, 0, 0, 0, 0, 0, 0, 0, 0, 0, 0, -1, 0, 0, 1, 0};
        for (int k = 0; k < 16; k++) d.due("count " + k, x.count(k), zeros[k]);
        d.due("status", x.status(), 0);
        d.due("fault", x.fault(), -1);
        d.due("stopped", x.stopped(), -1);
        d.due("lisps", x.lisps(), 0);
        d.due("of", x.of(0, 0), -1);
        d.due("beats", x.beats(0), -1);
        d.due("asks", x.asks(0, 0, 0, 0), -1);
        d.due("falls", x.falls(0, 0), -1);
        d.due("left", x.left(0, -1), -1);
        d.due("safe", x.safe(0, 0), -1);
        d.due("alone", x.alone(0, -1), -1);
        d.due("chances", x.chances(0, 0), -1);
        d.due("said 0 0", x.said(0, 0, 0), -1);
        d.due("compare", x.compare(-1, 0), -1);
        d.due("drawn", x.drawn(0, 0), -1);
        d.due("pass", x.pass(), 1);
        d.due("undo", x.undo(), 3);
    }

    private static void childAndOf() {
        d.part("2, 3");
        ItByRhyme x = new ItByRhyme();
        for (int c = 0; c < 6; c++) d.due("child", x.child(c == 5 ? 9 : c), c);
        d.due("child, no room", x.child(0), -5);
        d.due("child, -1 goes ahead of -5", x.child(10), -1);
        d.due("child below", x.child(Integer.MIN_VALUE), -1);
        d.due("quick", x.of(5, 0), 9);
        d.due("quick 0", x.of(0, 0), 0);
        d.due("in", x.of(5, 1), 1);
        x.leave(5);
        d.due("out", x.of(5, 1), 0);
        d.due("what 2", x.of(5, 2), -1);
        d.due("what -1", x.of(5, -1), -1);
        d.due("no child", x.of(6, 0), -1);
        d.due("no child", x.of(-1, 1), -1);
    }

    private static void rhymeAndBeats() {
        d.part("4, 5");
        ItByRhyme x = new ItByRhyme();
        d.due("too few", x.rhyme(0), -1);
        d.due("too many", x.rhyme(16), -1);
        int[] beats = {1, 15, 7, 7, 2};
        for (int r = 0; r < 5; r++) d.due("rhyme", x.rhyme(beats[r]), r);
        d.due("no room", x.rhyme(3), -5);
        d.due("-1 goes ahead of -5", x.rhyme(16), -1);
        for (int r = 0; r < 5; r++) d.due("beats", x.beats(r), beats[r]);
        d.due("none", x.beats(5), -1);
        d.due("none", x.beats(-1), -1);
    }

    private static void asksOfALaw() {
        d.part("6");
        ItByRhyme x = Due.ring(4, 9, 3);
        x.terms(3, 7);
        x.terms(0, 12);
        Due.law(x, "beats quick*10;beats beat+round if child=1;beats 5 if rhyme=1 and child=1;beats 1/0 if child=2;"
            + "skips if beat=15;skips if beat=0;turns if many=3;keeps if mood=7 and quick=4");
        x.force(0);
        d.due("clamped down", x.asks(0, 3, 0, 0), 15);
        d.due("in reach", x.asks(0, 0, 9, 0), 10);
        d.due("beat is 0 of beats, b aside", x.asks(0, 1, 5, 0), 12);
        d.due("the last that holds", x.asks(1, 1, 0, 0), 5);
        d.due("a broken one does not hold", x.asks(0, 2, 0, 0), 15);
        d.due("passed over", x.asks(0, 0, 15, 1), 1);
        d.due("passed over at 0", x.asks(0, 0, 0, 1), 1);
        d.due("not passed over", x.asks(0, 0, 14, 1), 0);
        d.due("turns not", x.asks(0, 0, 1, 2), 0);
        x.leave(0);
        d.due("turns with three in, asked of one out", x.asks(0, 0, 1, 2), 1);
        d.due("stays", x.asks(0, 3, 1, 3), 1);
        d.due("stays not", x.asks(0, 2, 1, 3), 0);
        d.due("b 16", x.asks(0, 2, 16, 1), -1);
        d.due("b -1", x.asks(0, 2, -1, 0), -1);
        d.due("what 4", x.asks(0, 2, 1, 4), -1);
        d.due("what -1", x.asks(0, 2, 1, -1), -1);
        d.due("no rhyme", x.asks(2, 2, 1, 1), -1);
        d.due("no child", x.asks(0, 4, 1, 1), -1);
        ItByRhyme y = Due.ring(2, 9);
        Due.law(y, "beats 3-8;beats 2 if 1/0=1");
        y.force(0);
        d.due("clamped up; broken if", y.asks(0, 0, 0, 0), 1);
    }

    /** Each question has its own answer, whatever was asked ahead of it. */
    private static void asksWhateverWasAsked() {
        d.part("6: many questions");
        ItByRhyme x = Due.ring(6, 1, 2, 3, 4, 5);
        Due.law(x, "skips if [child+beat*2+many*3+rhyme]%5<2;turns if [child*3+beat+many+rhyme*2]%4<2;"
            + "keeps if [child+beat*3+many*2+rhyme]%3=1");
        x.force(0);
        for (int many = 6; many >= 0; many--) {
            for (int r = 0; r <= 4; r += 4) {
                for (int c = 0; c <= 1; c++) {
                    for (int b : new int[] {0, 1, 14, 15}) {
                        String what = "many " + many + ", rhyme " + r + ", child " + c + ", beat " + b;
                        d.due(what + ": skips", x.asks(r, c, b, 1), (c + b * 2 + many * 3 + r) % 5 < 2 ? 1 : 0);
                        d.due(what + ": turns", x.asks(r, c, b, 2), (c * 3 + b + many + r * 2) % 4 < 2 ? 1 : 0);
                        d.due(what + ": keeps", x.asks(r, c, b, 3), (c + b * 3 + many * 2 + r) % 3 == 1 ? 1 : 0);
                    }
                }
            }
            x.leave(many - 1);
        }
    }

    private static void termsAndTheirEdges() {
        d.part("7");
        ItByRhyme x = new ItByRhyme();
        int[] most = {999, 5, 10, 9};
        int[] first = {0, 0, 1, 0};
        for (int k = 0; k < 4; k++) {
            d.due("above", x.terms(k, most[k] + 1), -1);
            d.due("below", x.terms(k, -1), -1);
            d.due("was at first", x.terms(k, most[k]), first[k]);
            d.due("was", x.terms(k, 0), most[k]);
            d.due("is", x.count(12 + k), 0);
        }
        d.due("no such term", x.terms(4, 0), -1);
        d.due("no such term", x.terms(-1, 0), -1);
        d.due("refused", x.count(6), 10);
    }

    private static void feedAndEnd() {
        d.part("8, 9");
        ItByRhyme x = new ItByRhyme();
        for (int i = 1; i <= 20; i++) d.due("feed", x.feed(0, 0, 0, 0, 0), 20 * i);
        d.due("full", x.feed(0, 0, 0, 0, 0), -1);
        d.due("end above", x.end(401), -1);
        d.due("end below", x.end(-1), -1);
        d.due("end", x.end(381), 381);
        d.due("still too full", x.feed(0, 0, 0, 0, 0), -1);
        d.due("end", x.end(380), 380);
        d.due("just room", x.feed(0, 0, 0, 0, 0), 400);
        d.due("end of all", x.end(400), 400);
        d.due("end 0", x.end(0), 0);
        d.due("end 1 of 0", x.end(1), -1);
        d.due("not refusals", x.count(6), 0);
        x.feed(0x01020304, 0x05ff0000, 0, 0, 0);
        x.end(6);
        d.due("highest byte first", x.row(), 5);
        for (int c = 0; c < 5; c++) d.due("quick", x.of(c, 0), c + 1);
        d.due("byte 255", x.lisps(), 1);
    }

    private static void rowAndLisps() {
        d.part("10, 11");
        ItByRhyme x = new ItByRhyme();
        d.due("empty", x.row(), -6);
        Due.put(x, "\t\n0");
        d.due("one came", x.row(), 1);
        d.due("two lisps", x.lisps(), 2);
        d.due("tape is empty", x.count(5), 0);
        d.due("empty", x.row(), -6);
        d.due("lisps as ahead of the refused one", x.lisps(), 2);
        x.child(3);
        x.leave(0);
        Due.put(x, "zzz");
        d.due("none came", x.row(), 0);
        d.due("not refused", x.status(), 0);
        d.due("cuts undo", x.count(4), 0);
        Due.put(x, "\1\2\3\4\5\6");
        d.due("as room is", x.row(), 4);
        d.due("no room is a lisp", x.lisps(), 2);
        d.due("in", x.of(5, 1), 1);
        d.due("quick", x.of(5, 0), 4);
    }

    private static void forceALaw() {
        d.part("16");
        ItByRhyme x = Due.ring(2, 4);
        Due.law(x, "beats 2");
        Due.law(x, "beats 3");
        d.due("-2", x.force(2), -2);
        d.due("status", x.status(), -2);
        d.due("-2", x.force(-2), -2);
        d.due("none was", x.force(1), -1);
        d.due("status", x.status(), 0);
        d.due("asked", x.asks(0, 0, 0, 0), 3);
        d.due("1 was", x.force(0), 1);
        d.due("asked", x.asks(0, 0, 0, 0), 2);
        d.due("0 was", x.force(-1), 0);
        d.due("asked", x.asks(0, 0, 0, 0), 4);
        d.due("in force", x.count(11), -1);
    }

    private static void sayAndFalls() {
        d.part("17, 18");
        ItByRhyme x = Due.ring(5, 7, 1);
        d.due("begins", x.falls(0, 0), 0);
        for (int b = 1; b <= 7; b++) d.due("falls", x.falls(0, b), (b - 1) % 5);
        d.due("beyond", x.falls(0, 8), -1);
        d.due("beyond", x.falls(0, 16), -1);
        d.due("below", x.falls(0, -1), -1);
        d.due("no rhyme", x.falls(2, 0), -1);
        d.due("nothing was said", x.count(1), 5);
        d.due("say", x.say(0), 1);
        d.due("at", x.count(13), 2);
        x.terms(1, 1);
        d.due("begins at the first one in", x.falls(0, 0), 2);
        d.due("say", x.say(1), 2);
        x.terms(1, 4);
        d.due("the last child", x.say(1), 4);
        d.due("at behind the last one", x.count(13), 0);
        d.due("-2 ahead of -3", x.say(2), -2);
        d.due("say", x.say(0), 0);
        d.due("one is in", x.say(0), -3);
        d.due("no such one, though one is in", x.say(-1), -2);
        d.due("falls: one is in", x.falls(0, 0), -1);
        ItByRhyme z = Due.ring(2, 15);
        d.due("the fifteenth", z.falls(0, 15), 0);
        d.due("the fourteenth", z.falls(0, 14), 1);
        d.due("said", z.say(0), 0);
        ItByRhyme y = Due.ring(3, 1);
        y.terms(1, 5);
        d.due("AT modulo children", y.falls(0, 0), 2);
        d.due("AT as set", y.count(13), 5);
    }

    private static void sayByALaw() {
        d.part("17 by laws");
        ItByRhyme x = Due.ring(4, 3);
        Due.law(x, "skips");
        x.force(0);
        d.due("all skip: it falls there all the same", x.falls(0, 1), 0);
        d.due("then the next one", x.falls(0, 3), 2);
        Due.law(x, "skips if beat=1 and child<2");
        x.force(1);
        d.due("begins", x.falls(0, 0), 0);
        d.due("the first one is passed over, too", x.falls(0, 1), 2);
        d.due("on from there", x.falls(0, 2), 3);
        Due.law(x, "turns if beat=1;skips if child=3");
        x.force(2);
        d.due("back, past one passed over", x.falls(0, 2), 2);
        Due.law(x, "keeps if beat=3 and many=4;beats 3");
        x.force(3);
        d.due("stays", x.say(0), 102);
        d.due("at behind one who stays", x.count(13), 3);
        d.due("all in", x.count(1), 4);
        x.leave(0);
        d.due("many is three", x.say(0), 2);
        Due.law(x, "turns if child=0 or child=3;beats 6");
        x.force(4);
        x.pass();
        d.due("turned at the first beat", x.falls(0, 2), 3);
        d.due("turned at the second one", x.falls(0, 3), 0);
        d.due("and again", x.falls(0, 4), 3);
    }

    private static void joinLeavePass() {
        d.part("19, 20, 21");
        ItByRhyme x = Due.ring(3, 2);
        d.due("join one in", x.join(1), -3);
        d.due("join none", x.join(3), -2);
        d.due("join none", x.join(-1), -2);
        d.due("leave", x.leave(1), 2);
        d.due("leave one out", x.leave(1), -3);
        d.due("leave none", x.leave(3), -2);
        d.due("leave", x.leave(0), 1);
        d.due("leave", x.leave(2), 0);
        d.due("join", x.join(2), 1);
        x.terms(1, 2);
        d.due("pass", x.pass(), 1);
        d.due("all in", x.count(1), 3);
        d.due("at", x.count(13), 0);
        x.terms(0, 998);
        d.due("pass", x.pass(), 999);
        x.leave(0);
        d.due("no more", x.pass(), -3);
        d.due("nothing changed", x.count(1), 2);
        d.due("nothing kept", x.undo(), 2);
    }

    private static void undoSixteen() {
        d.part("22");
        ItByRhyme x = Due.ring(2, 2);
        d.due("none", x.undo(), -3);
        for (int i = 0; i < 9; i++) {
            x.leave(0);
            x.join(0);
        }
        d.due("sixteen are kept", x.count(4), 16);
        for (int i = 0; i < 16; i++) d.due("undone", x.undo(), i % 2 == 0 ? 1 : 2);
        d.due("none is left", x.undo(), -3);
        d.due("as behind the second", x.of(0, 1), 1);
        for (int i = 0; i < 8; i++) {
            x.leave(0);
            x.join(0);
        }
        x.pass();
        d.due("the newest", x.undo(), 3);
        for (int i = 0; i < 15; i++) x.undo();
        d.due("the oldest of seventeen is gone", x.of(0, 1), 0);
        x.join(0);
        x.terms(1, 5);
        x.say(0);
        d.due("at", x.count(13), 1);
        x.pass();
        d.due("pass undone", x.undo(), 3);
        d.due("in", x.count(1), 1);
        d.due("at", x.count(13), 1);
        d.due("round", x.count(12), 0);
        d.due("say undone", x.undo(), 0);
        d.due("at as it was set", x.count(13), 5);
        d.due("in", x.count(1), 2);
    }

    private static void undoIsCut() {
        d.part("22: what cuts");
        for (int k = 0; k < 9; k++) {
            ItByRhyme x = Due.ring(3, 2);
            x.leave(0);
            switch (k) {
                case 0 -> x.child(1);
                case 1 -> x.rhyme(1);
                case 2 -> { Due.put(x, "\1"); x.row(); }
                case 3 -> x.terms(2, 3);
                case 4 -> { x.image(0); x.back(0); }
                case 5 -> { x.child(11); x.rhyme(0); x.row(); x.terms(9, 9); x.back(0); }
                case 6 -> { Due.law(x, "skips"); x.force(0); }
                case 7 -> { x.image(1); x.quarters(1, 5); }
                default -> Due.orders(x, "join 0;join 0");
            }
            d.due("undo after " + k, x.undo(), k < 5 ? -3 : 2);
        }
    }

    private static void imageAndBack() {
        d.part("32, 33");
        ItByRhyme x = Due.ring(3, 2);
        Due.law(x, "beats 3");
        x.force(0);
        x.terms(2, 4);
        d.due("no such", x.image(2), -1);
        d.due("no such", x.image(-1), -1);
        d.due("not kept", x.back(0), -2);
        d.due("-1", x.back(2), -1);
        d.due("kept", x.image(0), 0);
        x.child(8);
        x.rhyme(9);
        Due.law(x, "beats 4");
        x.force(1);
        x.say(1);
        x.pass();
        x.terms(1, 3);
        x.terms(2, 9);
        x.terms(3, 9);
        x.image(1);
        x.quarters(5, 9);
        int alone = x.drawn(1, 0);
        Due.put(x, "skips if x");
        x.law();
        Due.put(x, "pass;join 0");
        x.orders();
        Due.put(x, "\1z");
        x.row();
        Due.put(x, "abc");
        int refusedAhead = x.count(10);
        d.due("back", x.back(0), 0);
        d.dues("as then", new long[] {x.count(0), x.count(1), x.count(2), x.count(3), x.count(11), x.count(12),
            x.count(13), x.count(14), x.count(15)}, 3, 3, 1, 1, 0, 0, 0, 4, 0);
        d.dues("not kept by it", new long[] {x.count(4), x.count(5), x.fault(), x.stopped(), x.lisps(),
            x.drawn(1, 0), x.count(10)}, 0, 3, -1, 1, 1, alone, refusedAhead);
        x.end(0);
        d.due("a law anew", Due.law(x, "beats 7"), 1);
        x.force(1);
        d.due("asked", x.asks(0, 0, 0, 0), 7);
        d.due("back to the other one", x.back(1), 0);
        d.due("its law", x.asks(0, 0, 0, 0), 4);
        d.due("its children", x.count(0), 4);
        d.due("its quick", x.of(3, 0), 8);
        x.child(1);
        d.due("images stay", x.back(1), 0);
        d.due("its children", x.count(0), 4);
        d.due("again", x.back(0), 0);
        d.due("its children", x.count(0), 3);
    }

    /** Numbers that an image gave up are given anew: each image has its own bearers of them. */
    private static void imagesOfOtherRings() {
        d.part("33: others");
        ItByRhyme x = Due.ring(2, 4);
        x.image(0);
        x.child(5);
        x.rhyme(6);
        Due.law(x, "beats 7");
        x.force(0);
        x.image(1);
        x.back(0);
        x.child(8);
        x.rhyme(9);
        Due.law(x, "beats 10");
        x.force(0);
        d.dues("the new ones", new long[] {x.of(2, 0), x.beats(1), x.asks(1, 2, 0, 0)}, 8, 9, 10);
        x.back(1);
        d.dues("the old ones", new long[] {x.of(2, 0), x.beats(1), x.asks(1, 2, 0, 0)}, 5, 6, 7);
    }

    private static void counts() {
        d.part("34");
        ItByRhyme x = Due.ring(2, 3);
        x.child(-1);
        x.say(7);
        x.say(7);
        x.undo();
        x.undo();
        x.undo();
        for (int c = 0; c < 4; c++) x.child(0);
        x.child(0);
        x.row();
        x.of(99, 0);
        x.feed(0, 0, 0, 0, 0);
        x.end(999);
        x.left(9, 9);
        x.image(0);
        Due.law(x, "turns");
        x.force(0);
        x.leave(0);
        d.dues("counts", new long[] {x.count(0), x.count(1), x.count(2), x.count(3), x.count(4), x.count(5), x.count(6),
            x.count(7), x.count(8), x.count(9), x.count(10), x.count(11)}, 6, 5, 1, 0, 1, 0, 1, 3, 3, 1, 2, -1);
        d.due("none", x.count(16), -1);
        d.due("none", x.count(-1), -1);
        x.back(0);
        d.due("kept of refusals", x.count(8), 3);
    }

    private static void statusOfEach() {
        d.part("35");
        ItByRhyme x = new ItByRhyme();
        x.child(10);
        d.due("child", x.status(), -1);
        x.of(0, 0);
        x.beats(3);
        x.end(4);
        x.lisps();
        x.count(99);
        x.falls(1, 1);
        x.drawn(1, 1);
        d.due("others leave it", x.status(), -1);
        x.child(1);
        d.due("child", x.status(), 0);
        x.rhyme(0);
        d.due("rhyme", x.status(), -1);
        x.rhyme(1);
        d.due("rhyme", x.status(), 0);
        x.row();
        d.due("row", x.status(), -6);
        x.image(0);
        d.due("image", x.status(), 0);
        x.image(7);
        d.due("image", x.status(), -1);
        x.back(1);
        d.due("back", x.status(), -2);
        x.terms(2, 2);
        d.due("terms", x.status(), 0);
        x.law();
        d.due("law", x.status(), -6);
        x.pass();
        d.due("pass", x.status(), 0);
        Due.orders(x, "say 0");
        d.due("orders", x.status(), -3);
        x.undo();
        d.due("undo", x.status(), 0);
        x.undo();
        d.due("undo", x.status(), -3);
        x.leave(0);
        d.due("leave", x.status(), 0);
        x.say(0);
        d.due("say", x.status(), -3);
        x.join(0);
        d.due("join", x.status(), 0);
        x.join(9);
        d.due("join", x.status(), -2);
        d.due("quarters", x.quarters(0, 1), 1);
        d.due("quarters", x.status(), 0);
        x.quarters(-1, 1);
        d.due("quarters", x.status(), -1);
        x.force(-1);
        d.due("force", x.status(), 0);
    }
}
