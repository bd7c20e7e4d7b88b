/**
 * Each sentence of the document that names a boundary of what is told on paper, and of quarters:
 * III, IV, promises 23 to 31. The parts quote the sentences.
 */
public final class EdgesOnPaperTest {
    private static final Due d = new Due();
    private static final Twins twins = new Twins(d);
    private static final int LEAST = Integer.MIN_VALUE;
    private static final int MOST = Integer.MAX_VALUE;
    private static final long ALL = 1_000_000_000_000L;
    // By this law a ring of n takes n + (n - 1) + .. + 2 sayings of one beat, less if AT is not 0.
    private static final String SLOWEST = "keeps if not child=many-1";

    public static void main(String[] args) {
        leftTillLessThanTwo();
        leftIn60();
        leftRefused();
        safePlaces();
        safeNone();
        aloneFewest();
        aloneNone();
        gameTillOneIsIn();
        gameOfTwelve();
        gameChooses();
        chancesFromTo();
        chancesCut();
        chancesCutToNothing();
        saidFromTo();
        saidRows();
        saidTwoIn();
        compareEdges();
        quartersRefused();
        quartersDraws();
        quartersOneAtLeast();
        quartersAndRounds();
        quartersKept();
        drawnEdges();
        onPaper();
        firstBehindForce();
        d.close();
    }

    private static ItByRhyme by(String law, ItByRhyme x) {
        x.force(Due.law(x, law));
        return x;
    }

    private static ItByRhyme only(ItByRhyme x, int... in) {
        for (int c = 0; c < x.count(0); c++) x.leave(c);
        for (int c : in) x.join(c);
        return x;
    }

    private static void leftTillLessThanTwo() {
        d.part("23: who (i NONE), who is the i-th OUT. NONE (nobody is IN; not so many)");
        for (int n = 2; n <= 6; n++) {
            ItByRhyme x = Due.ring(n, 1);
            d.due(n + ": who", x.left(0, -1), n - 1);
            for (int i = 0; i < n - 1; i++) d.due(n + ": out " + i, x.left(0, i), i);
            d.due(n + ": not so many", x.left(0, n - 1), -1);
        }
        ItByRhyme two = only(Due.ring(6, 1), 2, 5);
        d.dues("two are in", new long[] {two.left(0, -1), two.left(0, 0), two.left(0, 1)}, 5, 2, -1);
        for (int c = 0; c < 6; c++) {
            ItByRhyme x = only(Due.ring(6, 1), c);
            d.dues("one is in", new long[] {x.left(0, -1), x.left(0, 0)}, c, -1);
        }
        ItByRhyme none = only(Due.ring(6, 1));
        d.dues("nobody is in", new long[] {none.left(0, -1), none.left(0, 0)}, -1, -1);
        ItByRhyme alone = Due.ring(1, 1);
        d.dues("one child", new long[] {alone.left(0, -1), alone.left(0, 0)}, 0, -1);
        d.due("no child", Due.ring(0, 1).left(0, -1), -1);
    }

    private static void leftIn60() {
        d.part("III: till less than two are IN (60 sayings at most)");
        ItByRhyme slow = by(SLOWEST, Due.ring(6, 1));
        d.dues("in twenty sayings", new long[] {slow.left(0, -1), slow.left(0, 0), slow.left(0, 1), slow.left(0, 4)}, 0, 5, 4, 1);
        ItByRhyme x = by("keeps if many=2", Due.ring(6, 1));
        for (int i = -1; i < 6; i++) d.due("not in 60 sayings: " + i, x.left(0, i), -1);
        x = by("keeps", Due.ring(2, 15));
        d.due("nor of two", x.left(0, -1), -1);
        d.due("nobody is safe so", x.safe(0, 0), 0);
        x.leave(1);
        d.due("one needs no saying", x.left(0, -1), 0);
        ItByRhyme later = by("keeps if round<3", Due.ring(2, 1));
        d.due("(On paper, ROUND as now:)", later.left(0, -1), -1);
        later.terms(0, 3);
        d.due("in round 3", later.left(0, -1), 1);
    }

    private static void leftRefused() {
        d.part("23: NONE");
        twins.tells("left(0, NONE)", Twins::rich, o -> o.left(0, -1), Twins.rich().left(0, -1));
        for (int rhyme : new int[] {-1, 2, 5, LEAST, MOST}) {
            twins.tells("left(" + rhyme + ", NONE)", Twins::rich, o -> o.left(rhyme, -1), -1);
            d.due("left(" + rhyme + ", 0)", Due.ring(3, 1, 1).left(rhyme, 0), -1);
        }
        for (int i : new int[] {-2, 2, 6, LEAST, MOST}) d.due("left(0, " + i + ")", Due.ring(3, 1).left(0, i), -1);
        d.due("the last of five rhymes", Due.ring(6, 1, 1, 1, 1, 6).left(4, 0), 5);
    }

    private static void safePlaces() {
        d.part("24: SAFE: places, as bits");
        for (int n = 1; n <= 6; n++) {
            ItByRhyme x = Due.ring(n, 1);
            for (int c = 0; c < n; c++) d.due(n + " children: safe(" + c + ", 0)", x.safe(c, 0), 1 << (c + 1) % n);
            only(x, n - 1);
            d.due(n + " children, the only one in: every place", x.safe(n - 1, 0), (1 << n) - 1);
            d.due(n + " children, one out: no place", n == 1 ? 0 : x.safe(0, 0), 0);
            only(x);
            d.due(n + " children, nobody is in: no place", x.safe(n - 1, 0), 0);
        }
        ItByRhyme x = Due.ring(5, 3);
        for (int at = 0; at <= 5; at++) {
            x.terms(1, at);
            d.due("(all else as now), AT aside", x.safe(3, 0), 1);
            d.due("AT stays", x.count(13), at);
        }
        ItByRhyme two = only(Due.ring(6, 1), 1, 4);
        d.due("places of those out, too", two.safe(1, 0), 0b011100);
        d.due("places of those out, too", two.safe(4, 0), 0b100011);
    }

    private static void safeNone() {
        d.part("24: NONE");
        for (int n : new int[] {-1, 4, 6, LEAST, MOST}) twins.tells("safe(" + n + ", 0)", Twins::rich, o -> o.safe(n, 0), -1);
        for (int n : new int[] {-1, 2, 5, LEAST, MOST}) twins.tells("safe(0, " + n + ")", Twins::rich, o -> o.safe(0, n), -1);
        d.due("no rhymes", Due.ring(1).safe(0, 0), -1);
        d.due("no children", Due.ring(0, 1).safe(0, 0), -1);
        d.due("the last ones", Due.ring(6, 1, 1, 1, 1, 1).safe(5, 4), 1);
    }

    private static void aloneFewest() {
        d.part("25: how many sayings (i NONE), the i-th RHYME");
        ItByRhyme x = Due.ring(3, 2, 1);
        d.dues("two sayings", new long[] {x.alone(1, -1), x.alone(1, 0), x.alone(1, 1), x.alone(1, 2)}, 2, 1, 0, -1);
        ItByRhyme same = Due.ring(3, 1, 1, 4, 1);
        d.dues("the first as a row", new long[] {same.alone(2, -1), same.alone(2, 0), same.alone(2, 1)}, 2, 0, 0);
        ItByRhyme slow = by(SLOWEST, Due.ring(6, 1));
        d.dues("twenty sayings", new long[] {slow.alone(0, -1), slow.alone(0, 19), slow.alone(0, 20)}, 20, 0, -1);
        for (int c = 0; c < 6; c++) {
            ItByRhyme one = only(Due.ring(6, 1), c);
            d.dues("already", new long[] {one.alone(c, -1), one.alone(c, 0)}, 0, -1);
        }
        ItByRhyme six = Due.ring(6, 1, 2, 3, 4, 5);
        d.due("five sayings at least", six.alone(5, -1), 5);
        for (int i = 0; i < 5; i++) d.due("the lowest row", six.alone(5, i), 0);
        d.due("no sixth", six.alone(5, 5), -1);
        for (int i : new int[] {-2, LEAST, MOST}) d.due("alone(5, " + i + ")", six.alone(5, i), -1);
        ItByRhyme last = Due.ring(2, 1, 3, 5, 7, 2);
        d.dues("the last rhyme alone", new long[] {last.alone(0, -1), last.alone(0, 0)}, 1, 4);
    }

    private static void aloneNone() {
        d.part("25: NONE (it can't be)");
        ItByRhyme x = Due.ring(2, 1);
        d.dues("never", new long[] {x.alone(0, -1), x.alone(0, 0), x.alone(1, -1)}, -1, -1, 1);
        d.due("by none that is said", by("keeps", Due.ring(2, 1)).alone(0, -1), -1);
        d.due("one out", only(Due.ring(3, 1, 2), 0, 1).alone(2, -1), -1);
        d.due("one out, another alone", only(Due.ring(3, 1, 2), 0).alone(2, -1), -1);
        d.due("nobody is in", only(Due.ring(3, 1)).alone(0, -1), -1);
        d.due("no rhymes", Due.ring(2).alone(0, -1), -1);
        d.due("no rhymes, but alone", Due.ring(1).alone(0, -1), 0);
        for (int n : new int[] {-1, 4, 6, LEAST, MOST}) twins.tells("alone(" + n + ", NONE)", Twins::rich, o -> o.alone(n, -1), -1);
    }

    private static void gameTillOneIsIn() {
        d.part("26: who is IT (what 0; NONE: nobody), the first RHYME (1; NONE: less than two are IN). NONE");
        ItByRhyme x = Due.ring(2, 1);
        d.dues("two are in", new long[] {x.game(0), x.game(1)}, 1, 0);
        x.leave(0);
        d.dues("one is in", new long[] {x.game(0), x.game(1)}, 1, -1);
        x.leave(1);
        d.dues("nobody is in", new long[] {x.game(0), x.game(1)}, -1, -1);
        ItByRhyme no = Due.ring(2);
        d.dues("no rhymes", new long[] {no.game(0), no.game(1)}, -1, -1);
        no.leave(1);
        d.dues("no rhymes, one is in", new long[] {no.game(0), no.game(1)}, 0, -1);
        d.dues("no children", new long[] {Due.ring(0, 1).game(0), Due.ring(0, 1).game(1)}, -1, -1);
        for (int what : new int[] {-1, 2, LEAST, MOST}) twins.tells("game(" + what + ")", Twins::rich, o -> o.game(what), -1);
    }

    private static void gameOfTwelve() {
        d.part("III: 12 sayings at most, till one is IN: that one is IT (else nobody is)");
        ItByRhyme x = by(SLOWEST, Due.ring(5, 1));
        x.terms(1, 2);
        d.dues("in twelve", new long[] {x.game(0), x.alone(0, -1)}, 0, 12);
        x.terms(1, 1);
        d.dues("in thirteen", new long[] {x.game(0), x.alone(0, -1), x.game(1)}, -1, 13, 0);
        ItByRhyme keeps = by("keeps", Due.ring(2, 1, 2));
        d.dues("never", new long[] {keeps.game(0), keeps.game(1)}, -1, 0);
    }

    private static void gameChooses() {
        d.part("III: the lowest RHYME by which it is not IT when all choose so, the lowest one of all if by each it is");
        ItByRhyme x = Due.ring(2, 2, 4, 3, 1, 5);
        d.dues("the lowest by which it is not", new long[] {x.game(0), x.game(1)}, 1, 2);
        ItByRhyme last = Due.ring(2, 2, 4, 6, 8, 1);
        d.dues("the last one", new long[] {last.game(0), last.game(1)}, 1, 4);
        ItByRhyme each = Due.ring(2, 2, 4, 6, 8, 10);
        d.dues("by each it is", new long[] {each.game(0), each.game(1)}, 0, 0);
        ItByRhyme second = only(Due.ring(6, 2, 1), 3, 5);
        second.terms(1, 4);
        d.dues("it begins at 5", new long[] {second.game(0), second.game(1)}, 3, 1);
        ItByRhyme stays = by("keeps if rhyme=1", Due.ring(2, 2, 2));
        d.dues("by which nobody is", new long[] {stays.game(0), stays.game(1)}, -1, 1);
    }

    private static void chancesFromTo() {
        d.part("27: CHANCES behind n sayings 0 .. 20. NONE (no such CHILD; no RHYMES)");
        ItByRhyme x = by("keeps if rhyme=0", Due.ring(2, 1, 1));
        d.due("n 0", x.chances(0, 0), ALL);
        d.due("n 1", x.chances(0, 1), ALL / 2);
        d.due("n 1", x.chances(1, 1), ALL);
        d.due("n 20 is not n 19", x.chances(1, 20) == x.chances(1, 19) ? 1 : 0, 0);
        for (int n : new int[] {-1, 21, LEAST, MOST}) twins.tells("chances(0, " + n + ")", Twins::rich, o -> o.chances(0, n), -1);
        for (int c : new int[] {-1, 4, 6, LEAST, MOST}) twins.tells("chances(" + c + ", 1)", Twins::rich, o -> o.chances(c, 1), -1);
        ItByRhyme single = Due.ring(3, 1);
        d.dues("one rhyme", new long[] {single.chances(0, 0), single.chances(0, 1), single.chances(1, 1), single.chances(1, 2),
            single.chances(2, 2)}, ALL, 0, ALL, 0, ALL);
        d.due("no rhymes, n 0", Due.ring(3).chances(0, 0), -1);
        d.due("no rhymes, n 20", Due.ring(3).chances(0, 20), -1);
        d.due("no children", Due.ring(0, 1).chances(0, 0), -1);
        d.due("one child", Due.ring(1, 1).chances(0, 20), ALL);
        d.due("the last of six", Due.ring(6, 1, 1, 1, 1, 1).chances(5, 20), ALL);
        d.due("n 20 of an endless one", by("keeps", Due.ring(6, 2)).chances(5, 20), ALL);
    }

    private static void chancesCut() {
        d.part("III: (nothing more is said, when less than two are IN): each part is cut");
        ItByRhyme x = Due.ring(3, 1, 1, 1);
        d.due("three of three", x.chances(2, 1), ALL / 3 * 3);
        d.due("cut again", x.chances(2, 2), ALL / 3 * 3 / 3 * 3);
        d.due("one is in: nothing more is cut", x.chances(2, 20), ALL / 3 * 3 / 3 * 3);
        d.due("one of three", Due.ring(2, 1, 2, 4).chances(1, 1), ALL / 3);
        d.due("two of three", Due.ring(2, 1, 2, 4).chances(0, 20), ALL / 3 * 2);
        ItByRhyme one = only(Due.ring(3, 1, 2, 4), 1);
        d.due("one is in", one.chances(1, 20), ALL);
        d.due("one out", one.chances(0, 20), 0);
        ItByRhyme none = only(Due.ring(3, 1, 2, 4));
        d.due("nobody is in", none.chances(1, 20), 0);
    }

    /** The parts by which both are IN are a fifth at each saying: 1 behind 17 of them, 0 behind 18. */
    private static void chancesCutToNothing() {
        d.part("III: each part is cut");
        ItByRhyme x = by("keeps if rhyme=0", Due.ring(2, 1, 1, 1, 1, 1));
        long both = ALL;
        long[] alone = {0, 0};
        for (int n = 0; n <= 20; n++) {
            d.due("0 behind " + n, x.chances(0, n), both + alone[0]);
            d.due("1 behind " + n, x.chances(1, n), both + alone[1]);
            d.due("both behind " + n, n < 18 || both == 0 ? 1 : 0, 1);
            alone[1 - n % 2] += both / 5 * 4;
            both /= 5;
        }
    }

    private static void saidFromTo() {
        d.part("28: SAID, k 0 .. 4: how many rows (i NONE), of the i-th the RHYME at a place. NONE");
        // Each row of these stays with both IN and AT 0.
        ItByRhyme x = by("keeps", Due.ring(2, 2, 4, 6, 8, 10));
        int rows = 1;
        for (int k = 0; k <= 4; k++) {
            d.due("rows of " + k, x.said(k, -1, 0), rows);
            d.due("a place does not matter then", x.said(k, -1, k + 9), rows);
            for (int place = 0; place < k; place++) {
                d.due("the first row", x.said(k, 0, place), 0);
                d.due("the last row", x.said(k, rows - 1, place), 4);
                d.due("not so many", x.said(k, rows, place), -1);
            }
            for (int place : new int[] {-1, k, LEAST, MOST}) d.due("no such place", x.said(k, 0, place), -1);
            for (int i : new int[] {-2, LEAST, MOST}) d.due("no such row", x.said(k, i, 0), -1);
            rows *= 5;
        }
        for (int k : new int[] {-1, 5, LEAST, MOST}) twins.tells("said(" + k + ", NONE, 0)", Twins::rich, o -> o.said(k, -1, 0), -1);
        for (int k : new int[] {-1, 5}) d.due("said(" + k + ", 0, 0)", x.said(k, 0, 0), -1);
        d.due("no rhymes: none said", Due.ring(2).said(0, -1, 0), 1);
        d.due("no rhymes: no rows", Due.ring(2).said(4, -1, 0), 0);
        d.due("no children: none said", Due.ring(0, 1).said(0, -1, 0), 1);
        d.due("no children: no rows", Due.ring(0, 1).said(1, -1, 0), 0);
    }

    private static void saidRows() {
        d.part("III: leave IN and AT as they are now; as rows of numbers go");
        ItByRhyme x = by("keeps", Due.ring(2, 2, 4, 6, 8, 10));
        for (int place = 0; place < 4; place++) {
            d.due("row 1 is 0 0 0 1", x.said(4, 1, place), place == 3 ? 1 : 0);
            d.due("row 5 is 0 0 1 0", x.said(4, 5, place), place == 2 ? 1 : 0);
            d.due("row 125 is 1 0 0 0", x.said(4, 125, place), place == 0 ? 1 : 0);
            d.due("row 194 is 1 2 3 4", x.said(4, 194, place), place + 1);
        }
        x.terms(1, 1);
        d.due("another AT", x.said(4, -1, 0), 0);
        d.due("another AT, none said", x.said(0, -1, 0), 0);
        x.terms(1, 0);
        x.leave(0);
        d.due("another one in", x.said(4, -1, 0), 0);
        d.due("another one in, none said", x.said(0, -1, 0), 0);
        ItByRhyme round = by("keeps if round=1", Due.ring(2, 2));
        d.due("(ROUND as now)", round.said(1, -1, 0), 0);
        round.pass();
        d.due("in round 1", round.said(1, -1, 0), 1);
    }

    private static void saidTwoIn() {
        d.part("III: (two IN ahead of each)");
        ItByRhyme x = Due.ring(5, 1);
        for (int k = 0; k <= 4; k++) {
            for (int j = 0; j <= 4; j++) d.due(k + " were said, rows of " + j, x.said(j, -1, 0), j == k ? 1 : 0);
            if (k < 4) x.say(0);
        }
        d.due("one is in", x.count(1), 1);
        ItByRhyme two = Due.ring(2, 1);
        two.say(0);
        d.dues("of two", new long[] {two.said(0, -1, 0), two.said(1, -1, 0), two.said(2, -1, 0), two.said(1, 0, 0)}, 0, 1, 0, 0);
        ItByRhyme one = Due.ring(1, 1);
        d.dues("of one", new long[] {one.said(0, -1, 0), one.said(1, -1, 0)}, 1, 0);
    }

    private static void compareEdges() {
        d.part("29: COMPARED. NONE (no such LAW, RHYME; nobody)");
        ItByRhyme x = Due.ring(3, 1);
        for (int l = 0; l < 6; l++) Due.law(x, l == 5 ? "keeps" : "beats " + (l + 1));
        d.dues("each", new long[] {x.compare(-1, 0), x.compare(0, 0), x.compare(1, 0), x.compare(2, 0), x.compare(4, 0), x.compare(5, 0)},
            2, 2, 2, 1, 0, -1);
        x.force(5);
        d.dues("another one in force", new long[] {x.compare(-1, 0), x.compare(2, 0), x.compare(5, 0)}, 2, 1, -1);
        for (int law : new int[] {-2, 6, LEAST, MOST}) d.due("compare(" + law + ", 0)", x.compare(law, 0), -1);
        for (int law : new int[] {-2, 2, LEAST, MOST}) twins.tells("compare(" + law + ", 0)", Twins::rich, o -> o.compare(law, 0), -1);
        for (int r : new int[] {-1, 2, LEAST, MOST}) twins.tells("compare(0, " + r + ")", Twins::rich, o -> o.compare(0, r), -1);
        for (int r : new int[] {-1, 1}) d.due("compare(NONE, " + r + ")", x.compare(-1, r), -1);
        d.due("one is in", only(x, 1).compare(5, 0), 1);
        d.due("nobody is in", only(x).compare(0, 0), -1);
        d.due("nobody is in, no law", x.compare(-1, 0), -1);
        d.due("in force still", x.count(11), 5);
    }

    private static void quartersRefused() {
        d.part("30: -1; -3 there are no RHYMES, no CHILDREN");
        for (int seed : new int[] {-1, 1000001, LEAST, MOST}) {
            twins.refused("quarters(" + seed + ", 1)", Twins::rich, o -> o.quarters(seed, 1), -1);
            twins.refused("quarters(" + seed + ", 1): -1 first", ItByRhyme::new, o -> o.quarters(seed, 1), -1);
        }
        for (int n : new int[] {0, 61, -1, LEAST, MOST}) {
            twins.refused("quarters(0, " + n + ")", Twins::rich, o -> o.quarters(0, n), -1);
            twins.refused("quarters(0, " + n + "): -1 first", ItByRhyme::new, o -> o.quarters(0, n), -1);
        }
        twins.refused("no rhymes", () -> Due.ring(6), o -> o.quarters(0, 1), -3);
        twins.refused("no children", () -> Due.ring(0, 1), o -> o.quarters(1000000, 60), -3);
        twins.refused("neither", ItByRhyme::new, o -> o.quarters(1000000, 60), -3);
    }

    /** Of six CHILDREN and RHYMES of 2, 3, .. BEATS, who is OUT tells what was drawn. */
    private static void quartersDraws() {
        d.part("IV: s becomes (s times 1103 and 12345) modulo 1,000,003, it is s modulo m; below SLIP");
        for (int seed : new int[] {0, 1, 895, 896, 499999, 999999, 1000000}) {
            long s = (seed * 1103L + 12345) % 1000003;
            long t = (s * 1103 + 12345) % 1000003;
            for (int m = 1; m <= 5; m++) {
                ItByRhyme x = Due.ring(6);
                for (int r = 0; r < m; r++) x.rhyme(2 + r);
                for (int slip = 0; slip <= 10; slip++) {
                    x.terms(2, slip);
                    d.due("no round passes", x.quarters(seed, 1), 0);
                    int out = (int) (s % m) + (t % 10 < slip ? 0 : 1);
                    String what = "seed " + seed + ", " + m + " rhymes, SLIP " + slip;
                    for (int c = 0; c < 6; c++) d.due(what + ": " + c, x.drawn(c, 1), c == out ? 0 : 1);
                }
            }
        }
        ItByRhyme x = Due.ring(2, 1);
        d.due("0 is taken", x.quarters(0, 1), 0);
        d.due("1,000,000 is taken", x.quarters(1000000, 1), 0);
    }

    private static void quartersOneAtLeast() {
        d.part("IV: with one BEAT less (1 at least)");
        for (int beats = 1; beats <= 15; beats += 7) {
            ItByRhyme x = Due.ring(6, beats);
            x.terms(2, 10);
            x.quarters(7, 1);
            int out = (Math.max(1, beats - 1) - 1) % 6;
            d.due(beats + " beats, one less", x.drawn(out, 1), 0);
            x.terms(2, 0);
            x.quarters(7, 1);
            d.due(beats + " beats", x.drawn((beats - 1) % 6, 1), 0);
        }
        ItByRhyme two = Due.ring(6, 2);
        two.terms(2, 10);
        two.quarters(7, 1);
        d.due("2 beats, one less", two.drawn(0, 1), 0);
        ItByRhyme kept = by("keeps if beat=2", Due.ring(6, 3));
        kept.terms(2, 10);
        kept.quarters(7, 1);
        for (int c = 0; c < 6; c++) d.due("asked at the last one that is said", kept.drawn(c, 1), 1);
        ItByRhyme one = by("keeps if beat=1", Due.ring(2, 1));
        one.terms(2, 10);
        one.quarters(7, 1);
        d.dues("that is beat 1 at least", new long[] {one.drawn(0, 1), one.drawn(1, 1)}, 1, 1);
    }

    private static void quartersAndRounds() {
        d.part("IV: if less than two are IN, a ROUND passes (at ROUND 999 it ends; it ends, too, if less than two are IN then)");
        ItByRhyme x = Due.ring(2, 1);
        d.due("1 saying", x.quarters(3, 1), 0);
        d.due("2 sayings", x.quarters(3, 2), 1);
        d.due("60 sayings", x.quarters(3, 60), 59);
        d.due("60 times alone", x.drawn(1, 0), 60);
        int[][] rounds = {{940, 59, 60}, {941, 58, 59}, {998, 1, 2}, {999, 0, 1}};
        for (int[] r : rounds) {
            x.terms(0, r[0]);
            d.due("from round " + r[0] + ": rounds", x.quarters(3, 60), r[1]);
            d.dues("from round " + r[0] + ": alone, in", new long[] {x.drawn(1, 0), x.drawn(0, 1), x.drawn(1, 1)}, r[2], 0, 1);
            d.due("ROUND stays", x.count(12), r[0]);
        }
        x.leave(1);
        d.due("one is in at 999: it ends", x.quarters(3, 60), 0);
        d.dues("as they were", new long[] {x.drawn(0, 0), x.drawn(0, 1), x.drawn(1, 1)}, 0, 1, 0);
        x.terms(0, 998);
        d.due("one is in at 998", x.quarters(3, 60), 1);
        d.dues("one saying", new long[] {x.drawn(1, 0), x.drawn(0, 1), x.drawn(1, 1)}, 1, 0, 1);
        x.leave(0);
        d.due("nobody is in", x.quarters(3, 1), 1);
        d.due("a round, then a saying", x.drawn(1, 0), 1);
        ItByRhyme one = Due.ring(1, 1);
        d.due("one child: a round, then it ends", one.quarters(3, 60), 1);
        d.dues("it is in, by no saying", new long[] {one.drawn(0, 1), one.drawn(0, 0)}, 1, 0);
        one.leave(0);
        d.due("one child, out", one.quarters(3, 1), 1);
        d.due("it is in", one.drawn(0, 1), 1);
        one.terms(0, 999);
        d.due("one child, out, at 999", one.quarters(3, 1), 0);
        d.due("it is out", one.drawn(0, 1), 0);
        ItByRhyme at = Due.ring(3, 1);
        at.terms(1, 2);
        at.quarters(3, 3);
        d.dues("from AT on", new long[] {at.drawn(0, 0), at.drawn(1, 0), at.drawn(2, 0)}, 0, 1, 0);
        d.dues("AT is 0 in a new round", new long[] {at.drawn(0, 1), at.drawn(1, 1), at.drawn(2, 1)}, 0, 1, 1);
        at.terms(1, 5);
        at.quarters(3, 1);
        d.due("AT modulo the children", at.drawn(2, 1), 0);
        ItByRhyme first = Due.ring(2, 2);
        first.terms(2, 0);
        first.quarters(3, 60);
        d.dues("the first one is alone", new long[] {first.drawn(0, 0), first.drawn(1, 0)}, 60, 0);
        ItByRhyme keeps = by("keeps", Due.ring(2, 1));
        d.due("nobody goes: no round passes", keeps.quarters(3, 60), 0);
    }

    private static void quartersKept() {
        d.part("30: QUARTERS, kept as the latest");
        ItByRhyme x = Due.ring(3, 1);
        x.quarters(3, 2);
        d.due("2 is alone", x.drawn(2, 0), 1);
        x.quarters(3, 1);
        d.dues("others", new long[] {x.drawn(2, 0), x.drawn(0, 1), x.drawn(1, 1)}, 0, 0, 1);
        d.due("refused", x.quarters(3, 61), -1);
        d.dues("the same", new long[] {x.drawn(2, 0), x.drawn(0, 1), x.drawn(1, 1)}, 0, 0, 1);
        d.dues("nothing of the ring", new long[] {x.count(1), x.count(4), x.count(12), x.count(13), x.count(14)}, 3, 0, 0, 0, 1);
        x.leave(1);
        x.quarters(3, 20);
        d.due("what can be undone stays", x.undo(), 2);
    }

    private static void drawnEdges() {
        d.part("31: how often a CHILD was left alone IN by a saying (what 0), whether it is IN (1: 1, 0). NONE");
        for (int what = 0; what <= 1; what++) d.due("ahead of any", Due.ring(6, 1).drawn(0, what), -1);
        ItByRhyme six = Due.ring(6, 1);
        six.quarters(0, 60);
        d.dues("the last of six", new long[] {six.drawn(5, 0), six.drawn(5, 1), six.drawn(4, 0), six.drawn(4, 1)}, 12, 1, 0, 0);
        for (int c : new int[] {-1, 6, LEAST, MOST}) {
            d.dues("drawn(" + c + ")", new long[] {six.drawn(c, 0), six.drawn(c, 1)}, -1, -1);
            twins.tells("drawn(" + c + ", 0)", Twins::rich, o -> o.drawn(c, 0), -1);
        }
        for (int what : new int[] {-1, 2, LEAST, MOST}) twins.tells("drawn(0, " + what + ")", Twins::rich, o -> o.drawn(0, what), -1);
        ItByRhyme one = only(Due.ring(2, 1), 1);
        one.terms(0, 999);
        one.quarters(0, 5);
        d.dues("alone, but by no saying", new long[] {one.drawn(1, 0), one.drawn(1, 1)}, 0, 1);
        ItByRhyme stays = by("keeps if many=2", Due.ring(3, 1));
        stays.quarters(0, 60);
        d.dues("two are left, nobody alone", new long[] {stays.drawn(0, 0), stays.drawn(1, 0), stays.drawn(2, 0)}, 0, 0, 0);
    }

    private static void onPaper() {
        d.part("III: (On paper)");
        twins.tells("left", Twins::rich, o -> o.left(1, 0), Twins.rich().left(1, 0));
        twins.tells("safe", Twins::rich, o -> o.safe(1, 1), Twins.rich().safe(1, 1));
        twins.tells("alone", Twins::rich, o -> o.alone(2, -1), Twins.rich().alone(2, -1));
        twins.tells("game", Twins::rich, o -> o.game(0), Twins.rich().game(0));
        twins.tells("chances", Twins::rich, o -> o.chances(1, 20), Twins.rich().chances(1, 20));
        twins.tells("said", Twins::rich, o -> o.said(4, -1, 0), Twins.rich().said(4, -1, 0));
        twins.tells("compare", Twins::rich, o -> o.compare(0, 1), Twins.rich().compare(0, 1));
    }

    /** A LAW that has just been forced holds for whatever is told first. */
    private static void firstBehindForce() {
        d.part("III: by that in FORCE");
        for (int k = 0; k < 8; k++) {
            ItByRhyme x = Due.ring(2, 1);
            Due.law(x, "beats 2");
            int[] want = {1, 0b01, 1, 1, 0, 0, 1, 0};
            int[] wantByLaw = {0, 0b10, -1, 0, 1, 1, 0, 1};
            d.due("first of " + k, first(x, k), want[k]);
            x.force(0);
            d.due("first by the law of " + k, first(x, k), wantByLaw[k]);
            x.force(-1);
            d.due("first without of " + k, first(x, k), want[k]);
        }
    }

    private static long first(ItByRhyme x, int k) {
        return switch (k) {
            case 0 -> x.left(0, -1);
            case 1 -> x.safe(1, 0);
            case 2 -> x.alone(1, -1);
            case 3 -> x.game(0);
            case 4 -> x.chances(0, 1) / ALL;
            case 5 -> x.falls(0, x.asks(0, 0, 0, 0));
            case 6 -> x.quarters(5, 1) + x.drawn(1, 1);
            default -> {
                x.leave(1);
                x.terms(1, 0);
                long rows = x.said(1, -1, 0);
                x.join(1);
                yield rows;
            }
        };
    }
}
