/**
 * What the class keeps or uses again from call to call must not be seen: a text, a question, a search
 * is answered as on a new object, whatever was read, asked or searched ahead of it.
 */
public final class UsedAgainTest {
    private static final Due d = new Due();

    public static void main(String[] args) {
        manyTexts();
        shortTextBehindLongOne();
        shortOrders();
        questionsUnderManyMoods();
        sayingsUnderManyMoods();
        searchBehindLargerOne();
        partsBehindOthers();
        gameBehindOthers();
        d.close();
    }

    private static void manyTexts() {
        d.part("12, 13: many texts on one object");
        String tests = " if 1=1 and 2=2 and 3=3 and not (4=5 or 6=7) and [1+2]*3=9";
        ItByRhyme x = Due.ring(2, 1);
        for (int i = 1; i <= 40; i++) {
            d.due("orders " + i, Due.orders(x, "pass" + tests + ";pass" + tests + " and round=" + (2 * i - 1)), 2);
        }
        ItByRhyme y = Due.ring(2, 1);
        y.image(0);
        for (int i = 1; i <= 30; i++) {
            d.due("law " + i, Due.law(y, "beats 4" + tests + ";beats 5+" + i % 7 + tests), 0);
            y.force(0);
            d.due("asks " + i, y.asks(0, 0, 0, 0), 5 + i % 7);
            y.back(0);
        }
    }

    /** The CLAUSES of a longer TEXT are no CLAUSES of a shorter one behind it. */
    private static void shortTextBehindLongOne() {
        d.part("12, 13: a short text behind a long one");
        String never = " if 1=2;";
        ItByRhyme x = Due.ring(3, 2);
        StringBuilder twelve = new StringBuilder();
        for (int i = 0; i < 4; i++) twelve.append("skips").append(never).append("turns").append(never).append("keeps").append(never);
        twelve.setLength(twelve.length() - 1);
        x.force(Due.law(x, twelve.toString()));
        for (int what = 1; what <= 3; what++) d.due("twelve that hold not: asks " + what, x.asks(0, 0, 1, what), 0);
        d.due("its beats", x.asks(0, 0, 1, 0), 2);
        Due.law(x, "skips;turns;keeps;beats 9;keeps;turns;skips;beats 8");
        d.due("three that hold not", Due.law(x, "skips if 1=2;turns if 1=2;keeps if 1=2"), 2);
        x.force(2);
        for (int what = 1; what <= 3; what++) d.due("three that hold not: asks " + what, x.asks(0, 0, 1, what), 0);
        d.due("its beats", x.asks(0, 0, 1, 0), 2);
        d.due("one that holds not", Due.law(x, "beats 5 if 1=2"), 3);
        x.force(3);
        for (int what = 0; what <= 3; what++) d.due("one that holds not: asks " + what, x.asks(0, 0, 1, what), what == 0 ? 2 : 0);
        d.due("long orders", Due.orders(x, "pass times 3;leave 0;join 0;pass times 2"), 7);
        d.due("short orders", Due.orders(x, "leave 1"), 1);
        d.due("and no round passed by them", x.count(12), 5);
        d.due("nor is one in by them", x.of(1, 1), 0);
    }

    private static void shortOrders() {
        d.part("13: \"and\", \"or\", \"not\" in the shortest orders");
        String[] names = {"0", "1"};
        for (int a = 0; a <= 1; a++) {
            for (int b = 0; b <= 1; b++) {
                String first = names[a] + "=1";
                String second = names[b] + "=1";
                run("pass if " + first + " and " + second, a & b);
                run("pass if " + first + " or " + second, a | b);
                run("pass if not " + first + " and " + second, (1 - a) & b);
                run("pass if not " + first + " or not " + second, 1 - (a & b));
                run("pass if " + first + " and " + second + " or " + first, a);
                run("pass if done=" + a + " and many=" + b + "+1", a == 0 && b == 1 ? 1 : 0);
                run("pass if done=" + a + " or many=" + b + "+1", a == 0 || b == 1 ? 1 : 0);
            }
        }
    }

    private static void run(String text, int due) {
        d.due(text, Due.orders(Due.ring(2, 1), text), due);
    }

    /** Each question is asked again many moods later: what was so then is not so now. */
    private static void questionsUnderManyMoods() {
        d.part("6: questions under many moods");
        for (int turns = 1; turns <= 40; turns++) {
            ItByRhyme x = Due.ring(6, 1, 2, 3, 4, 5);
            x.force(Due.law(x, "skips if [mood+beat]%2=0;turns if mood>4;keeps if [mood+child]%3=1"));
            for (int i = 0; i < 100; i++) {
                int mood = (i * 7 + turns) % 10;
                int beat = i % turns % 16;
                x.terms(3, mood);
                int what = 1 + turns % 3;
                int so = what == 1 ? 1 - (mood + beat) % 2 : what == 2 ? mood / 5 : (mood + 1) % 3 == 1 ? 1 : 0;
                d.due("turn " + i + " of " + turns + ": asks " + what, x.asks(0, 1, beat, what), so);
            }
        }
    }

    /** The same of whole sayings on paper: MOOD tells how many BEATS there are. */
    private static void sayingsUnderManyMoods() {
        d.part("23, 24: sayings under many moods");
        ItByRhyme x = Due.ring(2, 9);
        x.force(Due.law(x, "beats 1+mood"));
        for (int i = 0; i < 80; i++) {
            int mood = (i * 7 + 3) % 10;
            x.terms(3, mood);
            d.due("mood " + mood + ": left", x.left(0, -1), 1 - mood % 2);
            d.due("mood " + mood + ": safe", x.safe(0, 0), mood % 2 == 0 ? 2 : 1);
            d.due("mood " + mood + ": without a law", x.compare(-1, 0), 1);
        }
    }

    /** What an earlier search reached, with more IN, by more RHYMES, is not reached by a later one. */
    private static void searchBehindLargerOne() {
        d.part("25: a search behind a larger one");
        ItByRhyme x = Due.ring(6, 1, 2, 3, 4, 5);
        d.due("all are in", x.alone(5, -1), 5);
        x.game(0);
        x.leave(5);
        d.due("one is out", x.alone(5, -1), -1);
        d.due("another one", x.alone(4, -1), 4);
        x.leave(3);
        x.game(0);
        d.dues("two are out", new long[] {x.alone(5, -1), x.alone(3, -1), x.alone(4, -1)}, -1, -1, 3);
        for (int c : new int[] {1, 2}) x.leave(c);
        d.dues("two are in", new long[] {x.alone(0, -1), x.alone(4, -1), x.alone(1, -1)}, 1, 1, -1);
        ItByRhyme y = Due.ring(2, 2);
        y.image(0);
        d.dues("one rhyme", new long[] {y.alone(0, -1), y.alone(1, -1)}, 1, -1);
        y.rhyme(1);
        d.dues("two rhymes", new long[] {y.alone(0, -1), y.alone(1, -1), y.alone(1, 0)}, 1, 1, 1);
        y.back(0);
        d.dues("one again", new long[] {y.alone(0, -1), y.alone(1, -1)}, 1, -1);
    }

    private static void partsBehindOthers() {
        d.part("27: parts behind others");
        ItByRhyme x = Due.ring(3, 1, 2);
        long all = 1000000000000L;
        for (int turn = 0; turn < 3; turn++) {
            d.dues("all in", new long[] {x.chances(0, 1), x.chances(1, 1), x.chances(2, 1)}, all / 2, all / 2, all);
            d.due("twenty sayings", x.chances(0, 20) + x.chances(1, 20) + x.chances(2, 20), all);
            x.leave(2);
            d.dues("two in", new long[] {x.chances(0, 9), x.chances(1, 9), x.chances(2, 9)}, all / 2, all / 2, 0);
            x.leave(1);
            d.dues("one in", new long[] {x.chances(0, 9), x.chances(1, 9), x.chances(2, 9)}, all, 0, 0);
            x.undo();
            x.undo();
        }
    }

    private static void gameBehindOthers() {
        d.part("26: a game behind others");
        ItByRhyme x = Due.ring(2, 1);
        d.dues("who begins is out", new long[] {x.game(0), x.game(1)}, 1, 0);
        x.rhyme(2);
        d.dues("not who chooses", new long[] {x.game(0), x.game(1)}, 1, 0);
        x.terms(1, 1);
        d.dues("the other one begins", new long[] {x.game(0), x.game(1)}, 0, 0);
        x.leave(0);
        d.dues("one is in", new long[] {x.game(0), x.game(1)}, 1, -1);
        x.leave(1);
        d.dues("nobody is in", new long[] {x.game(0), x.game(1)}, -1, -1);
    }
}
