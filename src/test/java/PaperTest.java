/** Promises 23 to 31: what is told on paper, and quarters. */
public final class PaperTest {
    private static final Due d = new Due();

    public static void main(String[] args) {
        left();
        leftByLaws();
        safe();
        alone();
        game();
        gameOfTwelve();
        chances();
        said();
        compare();
        quarters();
        quartersByLaws();
        drawn();
        drawnBehindBack();
        changesAreSeen();
        d.close();
    }

    private static void left() {
        d.part("23");
        ItByRhyme x = Due.ring(5, 3);
        d.dues("of five by three", new long[] {x.left(0, -1), x.left(0, 0), x.left(0, 1), x.left(0, 2), x.left(0, 3)},
            3, 2, 0, 4, 1);
        d.due("not so many", x.left(0, 4), -1);
        d.due("below", x.left(0, -2), -1);
        d.due("no rhyme", x.left(1, -1), -1);
        d.due("no rhyme", x.left(-1, 0), -1);
        d.due("nothing was said", x.count(1), 5);
        d.due("at", x.count(13), 0);
        for (int c = 0; c < 4; c++) x.leave(c);
        d.due("the one in", x.left(0, -1), 4);
        d.due("nobody went out", x.left(0, 0), -1);
        x.leave(4);
        d.due("nobody is in", x.left(0, -1), -1);
    }

    private static void leftByLaws() {
        d.part("23 by laws");
        ItByRhyme x = Due.ring(3, 1);
        Due.law(x, "keeps if many=2");
        x.force(0);
        d.due("not in 60 sayings", x.left(0, -1), -1);
        d.due("nor is anyone the first out", x.left(0, 0), -1);
        d.due("nor the second", x.left(0, 1), -1);
        x.leave(0);
        x.leave(1);
        d.due("one is in already", x.left(0, -1), 2);
        d.due("nobody went out", x.left(0, 0), -1);
        x.join(0);
        x.join(1);
        Due.law(x, "keeps if child<2 and many=3");
        x.force(1);
        d.dues("stays count as sayings", new long[] {x.left(0, -1), x.left(0, 0), x.left(0, 1)}, 1, 2, 0);
        Due.law(x, "beats round+1");
        x.force(2);
        x.terms(0, 1);
        d.due("round as now", x.left(0, 0), 1);
    }

    private static void safe() {
        d.part("24");
        ItByRhyme x = Due.ring(5, 3);
        for (int c = 0; c < 5; c++) d.due("safe", x.safe(c, 0), 1 << (c + 2) % 5);
        d.due("no child", x.safe(5, 0), -1);
        d.due("no rhyme", x.safe(0, 1), -1);
        d.due("no child", x.safe(-1, 0), -1);
        x.terms(1, 4);
        d.due("at does not matter", x.safe(3, 0), 1);
        x.leave(3);
        d.due("one out is never left", x.safe(3, 0), 0);
        for (int c = 0; c < 3; c++) x.leave(c);
        d.due("the only one always is", x.safe(4, 0), 31);
        d.due("at is as it was", x.count(13), 4);
    }

    private static void alone() {
        d.part("25");
        ItByRhyme x = Due.ring(3, 2, 1);
        d.dues("first row of two", new long[] {x.alone(2, -1), x.alone(2, 0), x.alone(2, 1)}, 2, 0, 0);
        d.dues("rows", new long[] {x.alone(1, -1), x.alone(1, 0), x.alone(1, 1), x.alone(1, 2)}, 2, 1, 0, -1);
        d.due("below", x.alone(1, -2), -1);
        d.due("no child", x.alone(3, -1), -1);
        d.due("no child", x.alone(-1, -1), -1);
        x.leave(1);
        d.due("one out never is", x.alone(1, -1), -1);
        x.leave(0);
        d.due("already", x.alone(2, -1), 0);
        d.due("no rhymes in it", x.alone(2, 0), -1);
        ItByRhyme y = Due.ring(3, 1, 1);
        Due.law(y, "keeps if rhyme=0");
        y.force(0);
        d.dues("0", new long[] {y.alone(0, -1), y.alone(0, 0), y.alone(0, 1), y.alone(0, 2)}, 3, 0, 1, 1);
        d.dues("1", new long[] {y.alone(1, -1), y.alone(1, 0), y.alone(1, 1), y.alone(1, 2)}, 3, 1, 0, 1);
        d.dues("2", new long[] {y.alone(2, -1), y.alone(2, 0), y.alone(2, 1), y.alone(2, 2)}, 2, 1, 1, -1);
        ItByRhyme z = Due.ring(2);
        d.due("without rhymes", z.alone(0, -1), -1);
        z.leave(1);
        d.due("without rhymes, already", z.alone(0, -1), 0);
    }

    private static void game() {
        d.part("26");
        ItByRhyme x = Due.ring(2, 1, 2);
        d.due("it", x.game(0), 1);
        d.due("by the lowest", x.game(1), 0);
        ItByRhyme y = Due.ring(2, 2, 1);
        d.due("it", y.game(0), 1);
        d.due("by the lowest by which it is not", y.game(1), 1);
        ItByRhyme z = Due.ring(2, 2, 4);
        d.due("by each it is", z.game(0), 0);
        d.due("the lowest of all", z.game(1), 0);
        d.due("what 2", z.game(2), -1);
        d.due("what -1", z.game(-1), -1);
        z.leave(0);
        d.due("the one in", z.game(0), 1);
        d.due("nothing is said", z.game(1), -1);
        z.leave(1);
        d.due("nobody", z.game(0), -1);
        ItByRhyme v = Due.ring(3, 2, 3);
        d.due("three: who is it", v.game(0), 1);
        d.due("three: the first rhyme", v.game(1), 1);
        ItByRhyme w = Due.ring(2);
        d.due("no rhymes", w.game(0), -1);
        d.due("no rhymes", w.game(1), -1);
        w.leave(0);
        d.due("no rhymes, one is in", w.game(0), 1);
    }

    private static void gameOfTwelve() {
        d.part("26: twelve");
        // By this law a ring of five takes 5 + 4 + 3 + 2 sayings, less where AT is ahead of 4.
        ItByRhyme x = Due.ring(5, 1);
        Due.law(x, "keeps if not child=many-1");
        x.force(0);
        x.terms(1, 2);
        d.due("in twelve", x.game(0), 0);
        x.terms(1, 1);
        d.due("in thirteen", x.game(0), -1);
        d.due("the first rhyme all the same", x.game(1), 0);
        d.due("left in thirteen", x.left(0, -1), 0);
        ItByRhyme y = Due.ring(2, 1, 1);
        Due.law(y, "keeps if rhyme=0");
        y.force(0);
        d.due("nobody", y.game(0), -1);
        d.due("the lowest", y.game(1), 0);
    }

    private static void chances() {
        d.part("27");
        ItByRhyme x = Due.ring(3, 1, 1, 1);
        d.due("each part is cut", x.chances(1, 1), 999999999999L);
        d.due("never", x.chances(0, 1), 0);
        d.due("none said", x.chances(0, 0), 1000000000000L);
        d.due("nothing more is said", x.chances(2, 20), 999999999999L);
        d.due("n 21", x.chances(2, 21), -1);
        d.due("n -1", x.chances(2, -1), -1);
        d.due("no child", x.chances(3, 1), -1);
        d.due("no rhymes", Due.ring(2).chances(0, 0), -1);
        ItByRhyme y = Due.ring(2, 1, 2, 3, 5, 7);
        d.due("four of five", y.chances(1, 1), 800000000000L);
        d.due("one of five", y.chances(0, 1), 200000000000L);
        d.due("and no more", y.chances(0, 9), 200000000000L);
        y.leave(0);
        d.due("one out", y.chances(0, 3), 0);
        d.due("the only one", y.chances(1, 3), 1000000000000L);
        ItByRhyme z = Due.ring(2, 1, 1);
        Due.law(z, "keeps if rhyme=0");
        z.force(0);
        // 0 goes out at sayings 1, 3, 5, ..: by a half, an eighth, ..; the rest is cut from the 13th on.
        d.due("halves", z.chances(1, 2), 750000000000L);
        d.due("halves", z.chances(0, 3), 375000000000L);
        d.due("0 behind twelve", z.chances(0, 12), 333496093750L);
        long both = 1000000000000L / 4096;
        long wants = 333496093750L - both + (both / 2);
        d.due("cut at the thirteenth", z.chances(0, 13), wants);
    }

    private static void said() {
        d.part("28");
        ItByRhyme x = Due.ring(3, 1, 2, 4);
        d.due("none said", x.said(0, -1, 0), 1);
        d.due("it has no places", x.said(0, 0, 0), -1);
        d.due("k 5", x.said(5, -1, 0), -1);
        d.due("k -1", x.said(-1, -1, 0), -1);
        x.say(0);
        d.dues("rows of one", new long[] {x.said(1, -1, 9), x.said(1, 0, 0), x.said(1, 1, 0)}, 2, 0, 2);
        d.due("not so many", x.said(1, 2, 0), -1);
        d.due("no such place", x.said(1, 0, 1), -1);
        d.due("no such place", x.said(1, 0, -1), -1);
        d.due("i -2", x.said(1, -2, 0), -1);
        x.say(1);
        d.due("rows of two", x.said(2, -1, 0), 4);
        int[] rows = {0, 1, 0, 2, 2, 1, 2, 2};
        for (int j = 0; j < 8; j++) d.due("row", x.said(2, j / 2, j % 2), rows[j]);
        d.due("rows of three: two must be in", x.said(3, -1, 0), 0);
        x.terms(1, 1);
        d.due("at matters", x.said(2, -1, 0), 0);
        ItByRhyme y = Due.ring(3, 1);
        y.terms(1, 3);
        d.due("at as it is, not its place", y.said(0, -1, 0), 0);
        ItByRhyme z = Due.ring(2, 1, 1);
        Due.law(z, "keeps if rhyme=1");
        z.force(0);
        d.due("rows of four that stay", z.said(4, -1, 0), 1);
        for (int j = 0; j < 4; j++) d.due("row", z.said(4, 0, j), 1);
    }

    private static void compare() {
        d.part("29");
        ItByRhyme x = Due.ring(4, 5);
        Due.law(x, "beats 2");
        Due.law(x, "keeps");
        d.due("none", x.compare(-1, 0), 1);
        d.due("by a law", x.compare(0, 0), 0);
        d.due("nobody is left", x.compare(1, 0), -1);
        d.due("no law", x.compare(2, 0), -1);
        d.due("no law", x.compare(-2, 0), -1);
        d.due("no rhyme", x.compare(0, 1), -1);
        x.force(0);
        d.due("none in place of that in force", x.compare(-1, 0), 1);
        d.due("in force", x.left(0, -1), 0);
        d.due("which is in force still", x.count(11), 0);
        for (int c = 0; c < 4; c++) x.leave(c);
        d.due("nobody", x.compare(0, 0), -1);
    }

    private static void quarters() {
        d.part("30");
        ItByRhyme x = Due.ring(2, 1);
        d.due("seed", x.quarters(-1, 1), -1);
        d.due("seed", x.quarters(1000001, 1), -1);
        d.due("n", x.quarters(0, 0), -1);
        d.due("n", x.quarters(0, 61), -1);
        d.due("nothing kept", x.drawn(0, 0), -1);
        d.due("highest seed", x.quarters(1000000, 60), 59);
        d.dues("drawn", new long[] {x.drawn(0, 0), x.drawn(1, 0), x.drawn(0, 1), x.drawn(1, 1)}, 0, 60, 0, 1);
        d.dues("on paper", new long[] {x.count(1), x.count(12), x.count(13), x.count(4)}, 2, 0, 0, 0);
        d.due("a refused one", x.quarters(5, 99), -1);
        d.due("leaves the latest", x.drawn(1, 0), 60);
        x.terms(0, 997);
        d.due("till round 999", x.quarters(5, 60), 2);
        d.due("drawn", x.drawn(1, 0), 3);
        d.due("in", x.drawn(0, 1), 0);
        d.due("no rhymes", Due.ring(2).quarters(0, 1), -3);
        d.due("no children", Due.ring(0, 3).quarters(0, 1), -3);
        d.due("-1 ahead of -3", Due.ring(0).quarters(-1, 1), -1);
        ItByRhyme y = Due.ring(1, 1);
        y.leave(0);
        d.due("it ends with one, behind a round", y.quarters(3, 60), 1);
        d.due("in", y.drawn(0, 1), 1);
        d.due("by no saying", y.drawn(0, 0), 0);
        y.terms(0, 999);
        d.due("at the last round", y.quarters(3, 60), 0);
        d.due("in", y.drawn(0, 1), 0);
        // The draws of seed 0 are 12345 and 628841: RHYME 1, and 1 of 10.
        ItByRhyme z = Due.ring(4, 5, 2);
        z.quarters(0, 1);
        d.due("1 is not below 1", z.drawn(1, 1), 0);
        z.terms(2, 2);
        z.quarters(0, 1);
        d.due("1 is below 2", z.drawn(0, 1), 0);
        d.due("so 1 is in", z.drawn(1, 1), 1);
    }

    private static void quartersByLaws() {
        d.part("30 by laws");
        ItByRhyme x = Due.ring(2, 1);
        Due.law(x, "beats 3");
        x.force(0);
        x.terms(2, 10);
        d.due("quarters", x.quarters(9, 5), 4);
        d.due("one less than the law tells", x.drawn(0, 0), 5);
        x.force(-1);
        x.quarters(9, 5);
        d.due("one at least", x.drawn(1, 0), 5);
        Due.law(x, "beats 1+round%2");
        x.force(1);
        x.terms(2, 0);
        d.due("quarters", x.quarters(9, 3), 2);
        d.due("rounds on paper", x.drawn(1, 0), 2);
        d.due("rounds on paper", x.drawn(0, 0), 1);
        Due.law(x, "keeps if many=2");
        x.force(2);
        d.due("nobody goes", x.quarters(9, 60), 0);
        d.due("left alone", x.drawn(0, 0), 0);
        x.leave(0);
        d.due("a round ahead of the first", x.quarters(9, 1), 1);
    }

    private static void drawn() {
        d.part("31");
        ItByRhyme x = Due.ring(3, 2);
        d.due("ahead of any", x.drawn(0, 1), -1);
        x.quarters(1, 1);
        d.due("what", x.drawn(0, 2), -1);
        d.due("what", x.drawn(0, -1), -1);
        d.due("no child", x.drawn(3, 0), -1);
        d.due("no child", x.drawn(-1, 0), -1);
        x.child(1);
        d.due("one who came later was not in them", x.drawn(3, 0), -1);
        d.due("nor is it in behind them", x.drawn(3, 1), -1);
        d.due("a refused one", x.quarters(1, 0), -1);
        d.due("changes nothing of that", x.drawn(3, 1), -1);
        x.quarters(1, 1);
        d.due("but it is in the next ones", x.drawn(3, 1), 1);
    }

    private static void drawnBehindBack() {
        d.part("31 behind back");
        ItByRhyme x = new ItByRhyme();
        x.image(0);
        for (int c = 0; c < 3; c++) x.child(c);
        x.rhyme(1);
        x.terms(2, 0);
        x.quarters(0, 2);
        x.back(0);
        d.due("no child is there", x.count(0), 0);
        d.dues("alone", new long[] {x.drawn(0, 0), x.drawn(1, 0), x.drawn(2, 0), x.drawn(3, 0)}, 0, 0, 1, -1);
        d.dues("in", new long[] {x.drawn(0, 1), x.drawn(1, 1), x.drawn(2, 1), x.drawn(3, 1)}, 0, 0, 1, -1);
        d.due("refused: no children", x.quarters(0, 1), -3);
        d.due("leaves the latest", x.drawn(2, 1), 1);
        x.child(5);
        x.rhyme(1);
        x.quarters(0, 1);
        d.dues("others, of one child", new long[] {x.drawn(0, 0), x.drawn(0, 1), x.drawn(1, 0), x.drawn(2, 1)}, 0, 1, -1, -1);
    }

    /** What is told must follow each change of the ring, whatever was told ahead of it. */
    private static void changesAreSeen() {
        d.part("changes");
        ItByRhyme x = Due.ring(3, 2);
        d.due("left", x.left(0, -1), 2);
        x.image(0);
        x.child(4);
        d.due("one child more", x.left(0, -1), 0);
        x.back(0);
        d.due("back", x.left(0, -1), 2);
        Due.law(x, "beats mood+1+round*2");
        x.force(0);
        d.due("by the law", x.left(0, 0), 0);
        x.terms(3, 2);
        d.due("mood", x.left(0, 0), 2);
        x.pass();
        d.due("round", x.left(0, 0), 1);
        x.undo();
        d.due("round undone", x.left(0, 0), 2);
        x.back(0);
        x.rhyme(1);
        d.due("a rhyme", x.left(1, 0), 0);
        x.back(0);
        x.rhyme(3);
        d.due("another rhyme of that number", x.left(1, 0), 2);
        x.back(0);
        Due.law(x, "beats 1 if quick=7");
        x.force(0);
        x.leave(0);
        x.leave(1);
        x.terms(1, 2);
        x.image(1);
        x.child(6);
        d.due("a child", x.left(0, 0), 3);
        d.due("a child", x.safe(2, 0), 7);
        x.back(1);
        Due.put(x, "\7");
        x.row();
        d.due("another child of that number", x.safe(2, 0), 15);
        x.back(0);
        Due.law(x, "beats 2+quick*2");
        x.force(0);
        d.due("another law of that number", x.left(0, 0), 0);
        x.back(0);
        d.due("back", x.left(0, 0), 1);
    }
}
