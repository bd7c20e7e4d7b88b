/**
 * Each sentence of the document that names a boundary of the ring, of terms and of sayings: I, III,
 * promises 1 to 7 and 16 to 22. The parts quote the sentences.
 */
public final class EdgesOfTheRingTest {
    private static final Due d = new Due();
    private static final Twins twins = new Twins(d);
    private static final int LEAST = Integer.MIN_VALUE;
    private static final int MOST = Integer.MAX_VALUE;

    public static void main(String[] args) {
        newObject();
        fiveHundredTwelve();
        sixChildren();
        quickFromTo();
        inAtFirst();
        fiveRhymes();
        beatsFromTo();
        behindTheLastComesZero();
        termsFromTo();
        ofAndBeats();
        asksFromTo();
        asksOfNobodyIn();
        lawNearest();
        forceEdges();
        twoAreInAtLeast();
        beginsModulo();
        fallsFromTo();
        passedOver();
        turnsBack();
        staysOrNot();
        atBehind();
        manyAsAhead();
        joinEdges();
        leaveEdges();
        roundBelow999();
        undoEdges();
        undoIsCut();
        d.close();
    }

    private static void newObject() {
        d.part("1: A ring without children.");
        ItByRhyme x = new ItByRhyme();
        long[] first = {0, 0, 0, 0, 0, 0, 0, 0, 0, 0, 0, -1, 0, 0, 1, 0};
        for (int k = 0; k < 16; k++) d.due("count(" + k + ")", x.count(k), first[k]);
        d.dues("others", new long[] {x.status(), x.fault(), x.stopped(), x.lisps()}, 0, -1, -1, 0);
        twins.refused("say(0)", ItByRhyme::new, o -> o.say(0), -2);
        twins.refused("join(0)", ItByRhyme::new, o -> o.join(0), -2);
        twins.refused("leave(0)", ItByRhyme::new, o -> o.leave(0), -2);
        twins.refused("force(0)", ItByRhyme::new, o -> o.force(0), -2);
        twins.refused("undo()", ItByRhyme::new, ItByRhyme::undo, -3);
        twins.refused("quarters(0, 1)", ItByRhyme::new, o -> o.quarters(0, 1), -3);
        twins.refused("back(0)", ItByRhyme::new, o -> o.back(0), -2);
        twins.refused("row()", ItByRhyme::new, ItByRhyme::row, -6);
        d.due("a round passes without children, too", x.pass(), 1);
        d.due("nobody is in then", x.count(1), 0);
        ItByRhyme other = new ItByRhyme();
        x.child(3);
        d.due("an object has its own ring", other.count(0), 0);
    }

    /** The last call that is promised is answered as well as the first. */
    private static void fiveHundredTwelve() {
        d.part("An object is used for at most 512 calls after it has been made");
        ItByRhyme x = new ItByRhyme();
        int calls = 0;
        for (int c = 0; c < 4; c++, calls++) x.child(c);
        for (int r = 0; r < 3; r++, calls++) x.rhyme(r + 2);
        for (; calls < 500; calls += 4) {
            x.leave(1);
            x.join(1);
            x.say(0);
            x.undo();
        }
        for (; calls < 511; calls++) x.chances(calls % 4, 20);
        d.due("how many ahead of the last one", calls, 511);
        d.due("the 512th", x.say(0), 1);
        ItByRhyme y = Due.ring(2, 1);
        for (int i = 0; i < 508; i++) d.due("pass", y.pass(), i + 1);
        d.due("the 512th, a round", y.pass(), 509);
    }

    private static void sixChildren() {
        d.part("I: CHILDREN 0 .. 5 (6 at most)");
        ItByRhyme x = new ItByRhyme();
        for (int c = 0; c < 6; c++) {
            d.due("no such child yet", x.of(c, 0), -1);
            d.due("child", x.child(c), c);
            d.due("children", x.count(0), c + 1);
        }
        d.due("the seventh", x.child(0), -5);
        d.due("status", x.status(), -5);
        twins.refused("child(0), no room", Twins::full, o -> o.child(0), -5);
        twins.refused("child(9), no room", Twins::full, o -> o.child(9), -5);
        ItByRhyme y = Due.ring(5);
        Due.put(y, "\7\7");
        d.due("by a row, too", y.row(), 1);
        d.due("the seventh is a lisp", y.lisps(), 1);
    }

    private static void quickFromTo() {
        d.part("I: QUICK 0 .. 9");
        ItByRhyme x = new ItByRhyme();
        d.due("0", x.child(0), 0);
        d.due("9", x.child(9), 1);
        d.dues("quick", new long[] {x.of(0, 0), x.of(1, 0)}, 0, 9);
        for (int quick : new int[] {-1, 10, LEAST, MOST}) {
            twins.refused("child(" + quick + ")", Twins::rich, o -> o.child(quick), -1);
            twins.refused("child(" + quick + "), no room either", Twins::full, o -> o.child(quick), -1);
        }
    }

    private static void inAtFirst() {
        d.part("I: IN (at first) or OUT");
        ItByRhyme x = Due.ring(1);
        x.leave(0);
        x.child(4);
        Due.put(x, "\2");
        x.row();
        d.dues("in", new long[] {x.of(0, 1), x.of(1, 1), x.of(2, 1), x.count(1)}, 0, 1, 1, 2);
    }

    private static void fiveRhymes() {
        d.part("I: RHYMES 0 .. 4 (5 at most)");
        ItByRhyme x = Due.ring(2);
        for (int r = 0; r < 5; r++) {
            d.due("no such rhyme yet", x.beats(r), -1);
            d.due("it can't be said", x.say(r), -2);
            d.due("rhyme", x.rhyme(r + 1), r);
            d.due("rhymes", x.count(2), r + 1);
        }
        d.due("the sixth", x.rhyme(1), -5);
        twins.refused("rhyme(1), no room", Twins::full, o -> o.rhyme(1), -5);
        twins.refused("rhyme(15), no room", Twins::full, o -> o.rhyme(15), -5);
        d.due("the last one is said", x.say(4), 0);
    }

    private static void beatsFromTo() {
        d.part("I: BEATS 1 .. 15");
        ItByRhyme x = Due.ring(2);
        d.due("1", x.rhyme(1), 0);
        d.due("15", x.rhyme(15), 1);
        d.dues("beats", new long[] {x.beats(0), x.beats(1), x.asks(0, 0, 0, 0), x.asks(1, 0, 0, 0)}, 1, 15, 1, 15);
        for (int beats : new int[] {0, 16, -1, LEAST, MOST}) {
            twins.refused("rhyme(" + beats + ")", Twins::rich, o -> o.rhyme(beats), -1);
            twins.refused("rhyme(" + beats + "), no room either", Twins::full, o -> o.rhyme(beats), -1);
        }
    }

    private static void behindTheLastComesZero() {
        d.part("I: behind each comes the next number, behind the last one 0");
        for (int n = 2; n <= 6; n++) {
            ItByRhyme x = Due.ring(n, 15);
            for (int b = 1; b <= 15; b++) d.due(n + " children, beat " + b, x.falls(0, b), (b - 1) % n);
            Due.law(x, "turns if beat=1");
            x.force(0);
            for (int b = 1; b <= 15; b++) {
                d.due(n + " children, the other way, beat " + b, x.falls(0, b), Math.floorMod(1 - b, n));
            }
        }
        ItByRhyme x = Due.ring(6, 15);
        x.leave(5);
        x.leave(0);
        x.leave(2);
        int[] in = {1, 3, 4};
        for (int b = 1; b <= 15; b++) d.due("past those out, beat " + b, x.falls(0, b), in[(b - 1) % 3]);
    }

    private static void termsFromTo() {
        d.part("I: TERMS: 0 ROUND 0 .. 999 (0 at first), 1 AT 0 .. 5 (0), 2 SLIP 0 .. 10 (1), 3 MOOD 0 .. 9 (0)");
        int[] most = {999, 5, 10, 9};
        int[] first = {0, 0, 1, 0};
        ItByRhyme x = new ItByRhyme();
        for (int k = 0; k < 4; k++) {
            int what = k;
            d.due("at first", x.count(12 + k), first[k]);
            d.due("the highest: what it was", x.terms(k, most[k]), first[k]);
            d.due("is", x.count(12 + k), most[k]);
            d.due("0: what it was", x.terms(k, 0), most[k]);
            d.due("is", x.count(12 + k), 0);
            for (int value : new int[] {-1, most[k] + 1, LEAST, MOST}) {
                twins.refused("terms(" + k + ", " + value + ")", Twins::rich, o -> o.terms(what, value), -1);
            }
        }
        for (int what : new int[] {-1, 4, LEAST, MOST}) {
            twins.refused("terms(" + what + ", 0)", Twins::rich, o -> o.terms(what, 0), -1);
        }
        ItByRhyme y = Due.ring(2);
        d.due("AT beyond the last child is taken", y.terms(1, 5), 0);
        d.due("as it is", y.count(13), 5);
    }

    private static void ofAndBeats() {
        d.part("3, 5: NONE");
        twins.tells("of(3, 0)", Twins::rich, o -> o.of(3, 0), 0);
        twins.tells("of(3, 1)", Twins::rich, o -> o.of(3, 1), 1);
        for (int child : new int[] {-1, 4, 6, LEAST, MOST}) {
            twins.tells("of(" + child + ", 0)", Twins::rich, o -> o.of(child, 0), -1);
            d.due("of(" + child + ", 1)", Twins.rich().of(child, 1), -1);
        }
        for (int what : new int[] {-1, 2, LEAST, MOST}) {
            twins.tells("of(0, " + what + ")", Twins::rich, o -> o.of(0, what), -1);
        }
        twins.tells("beats(1)", Twins::rich, o -> o.beats(1), 7);
        for (int rhyme : new int[] {-1, 2, 5, LEAST, MOST}) {
            twins.tells("beats(" + rhyme + ")", Twins::rich, o -> o.beats(rhyme), -1);
        }
        d.due("of the last of six", Twins.full().of(5, 0), 6);
        d.due("of the last of five", Twins.full().beats(4), 4);
    }

    private static void asksFromTo() {
        d.part("6: at BEAT b 0 .. 15 .. what 0 .. 3. NONE");
        ItByRhyme x = Due.ring(6, 1, 2, 3, 4, 5);
        Due.law(x, "skips if beat=0;skips if beat=15;turns if beat=1;keeps if child=5 and rhyme=4");
        x.force(0);
        d.dues("skips", new long[] {x.asks(0, 0, 0, 1), x.asks(0, 0, 1, 1), x.asks(0, 0, 14, 1), x.asks(0, 0, 15, 1)}, 1, 0, 0, 1);
        d.dues("turns", new long[] {x.asks(0, 0, 0, 2), x.asks(0, 0, 1, 2), x.asks(0, 0, 2, 2)}, 0, 1, 0);
        d.dues("keeps", new long[] {x.asks(4, 5, 15, 3), x.asks(3, 5, 15, 3), x.asks(4, 4, 15, 3)}, 1, 0, 0);
        d.dues("beats, b aside", new long[] {x.asks(4, 5, 0, 0), x.asks(4, 5, 15, 0)}, 5, 5);
        for (int b : new int[] {-1, 16, LEAST, MOST}) {
            for (int what = 0; what < 4; what++) d.due("asks(0, 0, " + b + ", " + what + ")", x.asks(0, 0, b, what), -1);
            twins.tells("asks(0, 0, " + b + ", 1)", Twins::rich, o -> o.asks(0, 0, b, 1), -1);
        }
        for (int what : new int[] {-1, 4, LEAST, MOST}) d.due("asks what " + what, x.asks(0, 0, 1, what), -1);
        for (int rhyme : new int[] {-1, 5, LEAST, MOST}) d.due("asks rhyme " + rhyme, x.asks(rhyme, 0, 1, 0), -1);
        for (int child : new int[] {-1, 6, LEAST, MOST}) d.due("asks child " + child, x.asks(0, child, 1, 0), -1);
        twins.tells("asks", Twins::rich, o -> o.asks(1, 2, 15, 3), 1);
        ItByRhyme y = Due.ring(2, 3);
        d.dues("no law: no clause", new long[] {y.asks(0, 1, 1, 0), y.asks(0, 1, 1, 1), y.asks(0, 1, 1, 2), y.asks(0, 1, 1, 3)},
            3, 0, 0, 0);
    }

    private static void asksOfNobodyIn() {
        d.part("6: as it would be asked now");
        ItByRhyme x = Due.ring(2, 3);
        Due.law(x, "skips if many=0;beats 9 if many=0;keeps if round=1;turns if mood=9");
        x.force(0);
        d.dues("two are in", new long[] {x.asks(0, 0, 1, 1), x.asks(0, 0, 1, 0)}, 0, 3);
        x.leave(0);
        x.leave(1);
        d.dues("none is in", new long[] {x.asks(0, 0, 1, 1), x.asks(0, 0, 1, 0)}, 1, 9);
        d.dues("round, mood", new long[] {x.asks(0, 0, 1, 3), x.asks(0, 0, 1, 2)}, 0, 0);
        x.pass();
        x.terms(3, 9);
        d.dues("round, mood", new long[] {x.asks(0, 0, 1, 3), x.asks(0, 0, 1, 2)}, 1, 1);
    }

    private static void lawNearest() {
        d.part("II: as many BEATS are said as the last \"beats\" that HOLDS tells, 1 .. 15 (else the nearest), its BEATS without");
        String[] sums = {"1", "15", "0", "16", "0-1", "1000*1000*1000", "0-1000*1000*1000", "2;beats 3", "3 if 1=2", "1/0"};
        int[] want = {1, 15, 1, 15, 1, 15, 1, 3, 8, 8};
        for (int k = 0; k < sums.length; k++) {
            ItByRhyme x = Due.ring(3, 8);
            Due.law(x, "beats " + sums[k]);
            x.force(0);
            d.due("beats " + sums[k], x.asks(0, 0, 0, 0), want[k]);
            d.due("so many are said", x.falls(0, want[k]), (want[k] - 1) % 3);
            d.due("and no more", x.falls(0, want[k] + 1), -1);
            d.due("the last one is out", x.say(0), (want[k] - 1) % 3);
        }
    }

    private static void forceEdges() {
        d.part("16: A LAW is in FORCE (NONE: none): which was. -2.");
        ItByRhyme x = Due.ring(2, 4);
        twins.refused("force(0), no law", () -> Due.ring(2, 4), o -> o.force(0), -2);
        d.due("none, and none was", x.force(-1), -1);
        for (int l = 0; l < 6; l++) Due.law(x, "beats " + (l + 1));
        d.due("the first", x.force(0), -1);
        d.due("the last", x.force(5), 0);
        d.due("in force", x.count(11), 5);
        d.due("again", x.force(5), 5);
        d.due("none", x.force(-1), 5);
        d.due("none in force", x.count(11), -1);
        for (int law : new int[] {-2, 6, LEAST, MOST}) {
            twins.refused("force(" + law + ") of six", Twins::full, o -> o.force(law), -2);
        }
        twins.refused("force(2) of two", Twins::rich, o -> o.force(2), -2);
    }

    private static void twoAreInAtLeast() {
        d.part("III: To SAY a RHYME (two are IN at least)");
        ItByRhyme x = Due.ring(6, 1, 1, 1, 1, 1);
        for (int c = 0; c < 4; c++) x.leave(c);
        d.due("two are in", x.say(0), 4);
        twins.refused("one is in", () -> oneIn(5), o -> o.say(0), -3);
        twins.refused("none is in", Twins::full, o -> o.say(4), -3);
        twins.refused("one child", () -> Due.ring(1, 3), o -> o.say(0), -3);
        for (int rhyme : new int[] {-1, 5, LEAST, MOST}) {
            twins.refused("say(" + rhyme + "), none is in: -2 first", Twins::full, o -> o.say(rhyme), -2);
        }
        twins.refused("say(2) of two", Twins::rich, o -> o.say(2), -2);
        d.due("falls: one is in", oneIn(5).falls(0, 0), -1);
        d.due("falls: one is in", oneIn(5).falls(0, 1), -1);
        d.due("falls: none is in", Twins.full().falls(0, 0), -1);
    }

    private static ItByRhyme oneIn(int who) {
        ItByRhyme x = Due.ring(6, 1, 2);
        for (int c = 0; c < 6; c++) if (c != who) x.leave(c);
        return x;
    }

    private static void beginsModulo() {
        d.part("III: it begins at the first CHILD IN from the place AT on (AT modulo how many CHILDREN there are)");
        for (int n = 2; n <= 6; n++) {
            for (int at = 0; at <= 5; at++) {
                ItByRhyme x = Due.ring(n, 1);
                x.terms(1, at);
                d.due(n + " children, AT " + at, x.falls(0, 0), at % n);
                d.due("the first beat is for that one", x.falls(0, 1), at % n);
                d.due("said", x.say(0), at % n);
            }
        }
        ItByRhyme x = Due.ring(6, 1);
        x.terms(1, 4);
        x.leave(4);
        d.due("the next one in", x.falls(0, 0), 5);
        x.leave(5);
        d.due("over the end to the beginning", x.falls(0, 0), 0);
        x.leave(0);
        d.due("and on", x.falls(0, 0), 1);
        x.leave(1);
        x.leave(2);
        x.join(5);
        x.leave(5);
        x.join(4);
        d.due("the one at AT itself", x.falls(0, 0), 4);
    }

    private static void fallsFromTo() {
        d.part("18: On whom BEAT b 1 .. 15 would fall (b 0: at whom it would begin). NONE");
        ItByRhyme x = Due.ring(4, 15, 1);
        d.dues("fifteen beats", new long[] {x.falls(0, 0), x.falls(0, 1), x.falls(0, 15), x.falls(0, 16)}, 0, 0, 2, -1);
        d.dues("one beat", new long[] {x.falls(1, 0), x.falls(1, 1), x.falls(1, 2), x.falls(1, 15)}, 0, 0, -1, -1);
        for (int b : new int[] {-1, 16, LEAST, MOST}) twins.tells("falls(0, " + b + ")", Twins::rich, o -> o.falls(0, b), -1);
        for (int rhyme : new int[] {-1, 2, LEAST, MOST}) {
            d.due("falls(" + rhyme + ", 0)", x.falls(rhyme, 0), -1);
            twins.tells("falls(" + rhyme + ", 1)", Twins::rich, o -> o.falls(rhyme, 1), -1);
        }
        Due.law(x, "beats 2 if child=0;skips if child=0");
        x.force(0);
        d.dues("begun at one who is passed over", new long[] {x.falls(0, 0), x.falls(0, 1), x.falls(0, 2), x.falls(0, 3)}, 0, 1, 2, -1);
        twins.tells("falls", Twins::rich, o -> o.falls(1, 5), Twins.rich().falls(1, 5));
    }

    private static void passedOver() {
        d.part("III: as often as there are CHILDREN IN at most (then it falls there all the same)");
        for (int n = 2; n <= 6; n++) {
            ItByRhyme x = Due.ring(n, 2);
            Due.law(x, "skips");
            Due.law(x, "skips if not child=" + (n - 1));
            Due.law(x, "skips if child=" + (n - 1));
            Due.law(x, "skips if beat=2");
            x.force(0);
            d.dues(n + ": each is passed over", new long[] {x.falls(0, 1), x.falls(0, 2)}, 0, 1 % n);
            x.force(1);
            d.dues(n + ": each but the last one", new long[] {x.falls(0, 1), x.falls(0, 2)}, n - 1, n - 1);
            x.force(2);
            d.dues(n + ": the last one alone", new long[] {x.falls(0, 1), x.falls(0, 2)}, 0, n == 2 ? 0 : 1);
            x.terms(1, n - 1);
            d.due(n + ": the first one, too, over the end to the beginning", x.falls(0, 1), 0);
            x.force(3);
            d.dues(n + ": at the last beat alone", new long[] {x.falls(0, 1), x.falls(0, 2)}, n - 1, 0);
        }
        ItByRhyme x = Due.ring(5, 3);
        x.leave(1);
        x.leave(3);
        Due.law(x, "skips");
        Due.law(x, "skips if beat=2 and child<4");
        x.force(0);
        d.dues("as often as are in, not as there are", new long[] {x.falls(0, 1), x.falls(0, 2), x.falls(0, 3)}, 0, 2, 4);
        x.force(1);
        d.dues("past those out", new long[] {x.falls(0, 1), x.falls(0, 2), x.falls(0, 3)}, 0, 4, 0);
        Due.law(x, "turns if beat=1;skips if beat=2 and child=4");
        x.force(2);
        d.dues("gone by that way", new long[] {x.falls(0, 1), x.falls(0, 2), x.falls(0, 3)}, 0, 2, 0);
    }

    private static void turnsBack() {
        d.part("III: Behind a BEAT (the last one, too) that fell on one at whom it turns back, the other way is gone");
        ItByRhyme x = Due.ring(4, 5);
        Due.law(x, "turns");
        Due.law(x, "turns if beat=5");
        Due.law(x, "turns if child=1;skips if child=1 and beat=2");
        Due.law(x, "turns if child=3");
        x.force(0);
        d.dues("at each", falls(x, 5), 0, 3, 0, 3, 0);
        x.force(1);
        d.dues("at the last one: nothing comes behind it", falls(x, 5), 0, 1, 2, 3, 0);
        d.due("said", x.say(0), 0);
        d.due("the next one goes on by rising numbers", x.falls(0, 2), 2);
        x.undo();
        x.force(2);
        d.dues("not at one passed over", falls(x, 5), 0, 2, 3, 0, 1);
        x.force(3);
        d.dues("at one on whom it falls", falls(x, 5), 0, 1, 2, 3, 2);
        x.terms(1, 3);
        d.dues("at the first one, too", falls(x, 5), 3, 2, 1, 0, 3);
        ItByRhyme y = Due.ring(2, 4);
        Due.law(y, "turns if child=0");
        y.force(0);
        d.dues("of two each way is the same", falls(y, 4), 0, 1, 0, 1);
    }

    private static long[] falls(ItByRhyme x, int beats) {
        long[] on = new long[beats];
        for (int b = 1; b <= beats; b++) on[b - 1] = x.falls(0, b);
        return on;
    }

    private static void staysOrNot() {
        d.part("III: The one on which the last BEAT fell is OUT, if it does not stay");
        ItByRhyme x = Due.ring(6, 6, 1);
        Due.law(x, "keeps if child=5 or child=0");
        x.force(0);
        d.due("100 and who stays: 0", x.say(1), 100);
        x.pass();
        d.due("100 and who stays: 5", x.say(0), 105);
        d.due("all are in", x.count(1), 6);
        x.terms(1, 1);
        d.due("another one is out", x.say(1), 1);
        d.due("so many are in", x.count(1), 5);
        ItByRhyme y = Due.ring(3, 3);
        Due.law(y, "keeps if beat=3;keeps if child=0");
        y.force(0);
        d.due("it is asked at the last beat", y.say(0), 102);
        Due.law(y, "keeps if beat<3 and child=2");
        y.force(1);
        y.terms(1, 0);
        d.due("not at those ahead of it", y.say(0), 2);
    }

    private static void atBehind() {
        d.part("III: AT is the place behind its number then (that of the last CHILD: 0)");
        for (int n = 2; n <= 6; n++) {
            for (int who = 0; who < n; who++) {
                ItByRhyme x = Due.ring(n, 1);
                x.terms(1, who);
                d.due("out", x.say(0), who);
                d.due(n + " children, " + who + " is out: AT", x.count(13), (who + 1) % n);
                x.undo();
                Due.law(x, "keeps");
                x.force(0);
                d.due("stays", x.say(0), 100 + who);
                d.due(n + " children, " + who + " stays: AT", x.count(13), (who + 1) % n);
            }
        }
        ItByRhyme x = Due.ring(4, 1);
        x.leave(1);
        x.say(0);
        d.due("the place behind, though one out stands there", x.count(13), 1);
    }

    private static void manyAsAhead() {
        d.part("III: (all asked with many as it was ahead)");
        ItByRhyme x = Due.ring(3, 2);
        Due.law(x, "keeps if many=2;beats 1 if many=2;skips if many=2 and beat=1;turns if many=2");
        x.force(0);
        d.due("three are in", x.say(0), 1);
        d.due("two are in", x.say(0), 102);
        Due.law(x, "keeps if many<2");
        x.force(1);
        d.due("one is in behind it, two ahead", x.say(0), 2);
    }

    private static void joinEdges() {
        d.part("19: To JOIN: how many are IN then. -2; -3.");
        ItByRhyme x = Due.ring(6);
        for (int c = 0; c < 6; c++) x.leave(c);
        for (int c = 5; c >= 0; c--) d.due("join", x.join(c), 6 - c);
        for (int c = 0; c < 6; c++) {
            int child = c;
            twins.refused("one in", () -> Due.ring(6, 3), o -> o.join(child), -3);
        }
        for (int child : new int[] {-1, 4, 6, LEAST, MOST}) {
            twins.refused("join(" + child + ")", Twins::rich, o -> o.join(child), -2);
        }
        d.due("AT stays", joined().count(13), 4);
    }

    private static ItByRhyme joined() {
        ItByRhyme x = Due.ring(5);
        x.terms(1, 4);
        x.leave(4);
        x.join(4);
        return x;
    }

    private static void leaveEdges() {
        d.part("20: To LEAVE: how many are IN then. -2; -3.");
        ItByRhyme x = Due.ring(6);
        for (int c = 0; c < 6; c++) d.due("leave", x.leave(c), 5 - c);
        for (int c = 0; c < 6; c++) {
            int child = c;
            twins.refused("one out", Twins::full, o -> o.leave(child), -3);
        }
        for (int child : new int[] {-1, 4, 6, LEAST, MOST}) {
            twins.refused("leave(" + child + ")", Twins::rich, o -> o.leave(child), -2);
        }
    }

    private static void roundBelow999() {
        d.part("III: A ROUND passes (ROUND below 999): all are IN, AT is 0, it is the next ROUND");
        ItByRhyme x = Due.ring(6, 3);
        d.due("0", x.pass(), 1);
        x.terms(0, 997);
        for (int c = 0; c < 6; c++) x.leave(c);
        x.terms(1, 5);
        d.due("997", x.pass(), 998);
        d.dues("all are in, AT, ROUND", new long[] {x.count(1), x.count(13), x.count(12)}, 6, 0, 998);
        x.leave(3);
        d.due("998", x.pass(), 999);
        d.due("all are in", x.count(1), 6);
        d.due("999", x.pass(), -3);
        twins.refused("pass at 999", Twins::full, ItByRhyme::pass, -3);
        d.due("undone", x.undo(), 3);
        d.due("998 again", x.count(12), 998);
        d.due("and passed again", x.pass(), 999);
    }

    private static void undoEdges() {
        d.part("22: (by ORDERS, too; 16 are kept) is undone: 0 .. 3. -3 there is none");
        ItByRhyme x = Due.ring(4, 1);
        for (int i = 1; i <= 17; i++) {
            x.pass();
            d.due("can be undone", x.count(4), Math.min(i, 16));
        }
        for (int i = 16; i > 0; i--) {
            d.due("undone", x.undo(), 3);
            d.due("round", x.count(12), i);
            d.due("can be undone", x.count(4), i - 1);
        }
        d.due("the seventeenth", x.undo(), -3);
        d.due("round 1 stays", x.count(12), 1);
        twins.refused("undo(), none", () -> undone(), ItByRhyme::undo, -3);
        x.say(0);
        x.leave(2);
        x.join(2);
        x.pass();
        d.dues("each", new long[] {x.undo(), x.undo(), x.undo(), x.undo(), x.undo()}, 3, 1, 2, 0, -3);
        x.terms(1, 5);
        Due.orders(x, "say 0;leave 3;join 3;pass");
        d.due("four by orders", x.count(4), 4);
        d.dues("each by orders", new long[] {x.undo(), x.undo(), x.undo(), x.undo(), x.undo()}, 3, 1, 2, 0, -3);
        d.dues("all as ahead of them", new long[] {x.count(1), x.count(12), x.count(13)}, 4, 1, 5);
        Due.orders(x, "pass times 17");
        d.due("sixteen by orders", x.count(4), 16);
        Due.law(x, "keeps");
        x.force(0);
        x.terms(1, 2);
        x.say(0);
        d.due("a saying by which one stayed", x.undo(), 0);
        d.due("AT", x.count(13), 2);
    }

    private static ItByRhyme undone() {
        ItByRhyme x = Due.ring(3, 2);
        x.say(0);
        x.undo();
        return x;
    }

    private static void undoIsCut() {
        d.part("22: nothing that was ahead of a child(), rhyme(), row(), terms() that was not REFUSED can be undone");
        for (int k = 0; k < 14; k++) {
            ItByRhyme x = k == 8 || k == 9 ? Due.ring(6, 1, 1, 1, 1, 1) : Due.ring(3, 2);
            x.leave(0);
            switch (k) {
                case 0 -> x.child(1);
                case 1 -> x.rhyme(1);
                case 2 -> { Due.put(x, "\1"); x.row(); }
                case 3 -> { Due.put(x, "z"); x.row(); }
                case 4 -> x.terms(2, 3);
                case 5 -> x.terms(2, x.count(14));
                case 6 -> x.child(10);
                case 7 -> x.rhyme(16);
                case 8 -> x.child(1);
                case 9 -> x.rhyme(1);
                case 10 -> x.row();
                case 11 -> x.terms(4, 0);
                case 12 -> x.terms(3, 10);
                default -> { Due.put(x, "skips"); x.law(); x.force(0); x.force(-1); x.image(0); x.quarters(1, 1); }
            }
            d.due(k + ": how many can be", x.count(4), k < 6 ? 0 : 1);
            d.due(k + ": undo", x.undo(), k < 6 ? -3 : 2);
            d.due(k + ": in", x.of(0, 1), k < 6 ? 0 : 1);
            x.pass();
            d.due(k + ": what comes behind it can be undone", x.undo(), 3);
        }
    }
}
