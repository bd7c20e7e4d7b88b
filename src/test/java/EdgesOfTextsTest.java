/**
 * Each sentence of the document that names a boundary of the TAPE and of texts: II, promises 8 to
 * 15, a ROW of IV. The parts quote the sentences.
 */
public final class EdgesOfTextsTest {
    private static final Due d = new Due();
    private static final Twins twins = new Twins(d);
    private static final int LEAST = Integer.MIN_VALUE;
    private static final int MOST = Integer.MAX_VALUE;

    public static void main(String[] args) {
        feedUpTo400();
        endFromTo();
        bytesHighestFirst();
        textsOf400();
        tokens();
        blanks();
        twelveClauses();
        numbersTo1000();
        fiftyParts();
        eightBrackets();
        faultAtTheEnd();
        faultOfTheLatest();
        billionEitherWay();
        dividing();
        deepestSums();
        allFifty();
        wordsOfLaws();
        stillMatters();
        sixLaws();
        lawRefused();
        lawHolds();
        timesFromTo();
        numbersOfChildren();
        wordsOfOrders();
        ordersAsked();
        ordersWhollyOrNot();
        ordersRefused();
        stoppedEdges();
        rows();
        d.close();
    }

    private static String many(String s, int n) {
        return s.repeat(n);
    }

    private static void fault(boolean law, String text, int want) {
        d.due("fault of " + (law ? "law: " : "orders: ") + text, Due.faultOf(law, text), want);
    }

    /** The same TEXT in both languages but for its first word; each takes as many bytes. */
    private static void faults(String behindVerb, int want) {
        fault(true, "beats " + behindVerb, want);
        fault(false, "leave " + behindVerb, want);
    }

    private static void feedUpTo400() {
        d.part("8: how many it has. NONE, if there would be more than 400");
        ItByRhyme x = new ItByRhyme();
        for (int i = 1; i <= 20; i++) d.due("feed", x.feed(i, i, i, i, i), 20 * i);
        d.due("the 21st", x.feed(1, 1, 1, 1, 1), -1);
        d.due("400 stay", x.count(5), 400);
        d.due("399", x.end(399), 399);
        d.due("there would be 419", x.feed(1, 1, 1, 1, 1), -1);
        d.due("381", x.end(381), 381);
        d.due("there would be 401", x.feed(1, 1, 1, 1, 1), -1);
        d.due("381 stay", x.count(5), 381);
        d.due("380", x.end(380), 380);
        d.due("400", x.feed(1, 1, 1, 1, 1), 400);
        twins.tells("feed, full", Twins::fullTape, o -> o.feed(9, 9, 9, 9, 9), -1);
        ItByRhyme y = Twins.fullTape();
        y.feed(0x41414141, 0x41414141, 0, 0, 0);
        y.end(8);
        d.due("its bytes stay", y.row(), 2);
        d.due("all came for whom there was room", y.lisps(), 6);
    }

    private static void endFromTo() {
        d.part("9: The TAPE has its first n bytes alone: n. NONE, if it has not so many, or n is below 0");
        ItByRhyme x = new ItByRhyme();
        d.due("0 of 0", x.end(0), 0);
        d.due("1 of 0", x.end(1), -1);
        x.feed(0, 0, 0, 0, 0);
        for (int n : new int[] {21, -1, 400, LEAST, MOST}) d.due("end(" + n + ") of 20", x.end(n), -1);
        d.due("20 stay", x.count(5), 20);
        d.due("20 of 20", x.end(20), 20);
        d.due("19", x.end(19), 19);
        d.due("20 of 19", x.end(20), -1);
        d.due("0", x.end(0), 0);
        d.due("1 of 0", x.end(1), -1);
        for (int n : new int[] {8, -1, LEAST, MOST}) twins.tells("end(" + n + ") of 7", Twins::rich, o -> o.end(n), -1);
        twins.tells("end(401) of 400", Twins::fullTape, o -> o.end(401), -1);
        d.due("400 of 400", Twins.fullTape().end(400), 400);
    }

    private static void bytesHighestFirst() {
        d.part("8: Twenty bytes come behind the TAPE, four of each number, the highest first");
        ItByRhyme x = new ItByRhyme();
        x.feed(0x736b6970, 0x73206966, 0x20313d31, 0xffffffff, 0x80000000);
        x.end(12);
        d.due("skips if 1=1", x.law(), 0);
        x.feed(0x736b6970, 0x73206966, 0x20313d31, 0xffffffff, 0x80000000);
        d.due("with 255 behind it", x.law(), -6);
        d.due("fault at that", x.fault(), 12);
        x.feed(0x7061, 0, 0, 0, 0);
        x.end(4);
        d.due("with 0 ahead of it", x.orders(), -6);
        d.due("fault at that", x.fault(), 0);
        x.feed(0x20202020, 0x20202020, 0x20202020, 0x20202020, 0x20202070);
        x.feed(0x61737320, 0x20202020, 0x20202020, 0x20202020, 0x20202020);
        d.due("a word from one feed to the next", x.orders(), 1);
        x.feed(0x00010203, 0x04050607, 0x08090a0b, 0, 0);
        x.end(12);
        d.due("each of twelve", x.row(), 6);
        for (int c = 0; c < 6; c++) d.due("quick", x.of(c, 0), c);
    }

    private static void textsOf400() {
        d.part("II: TEXTS are on a TAPE of at most 400 bytes");
        String tail = "skips if 1=2";
        ItByRhyme x = Due.ring(2, 3);
        d.due("400 bytes, the last one counts", Due.law(x, many(" ", 400 - tail.length()) + tail), 0);
        x.force(0);
        d.due("asked", x.asks(0, 0, 1, 1), 0);
        d.due("a longer number at the end", Due.law(x, many(" ", 388) + "skips if 1=1"), 1);
        x.force(1);
        d.due("asked", x.asks(0, 0, 1, 1), 1);
        fault(true, many(" ", 395) + "skips", -1);
        fault(true, many(" ", 396) + "skip", 396);
        fault(true, many(" ", 400), 400);
        fault(true, many(" ", 399) + "x", 399);
        fault(true, "skips" + many(" ", 394) + ";", 400);
        fault(true, "skips" + many(" ", 395), -1);
        fault(false, many(" ", 396) + "pass", -1);
        fault(false, many(" ", 400), 400);
        fault(false, many("z", 400), 0);
        fault(false, "say " + many("0", 396), -1);
        fault(false, "say " + many("9", 396), 4);
        fault(true, "skips if " + many("(", 391), 17);
        fault(true, "skips if " + many("not ", 97) + "1=1", -1);
        fault(true, "skips if " + many("[", 391), 17);
        fault(false, many("pass;", 80), 60);
    }

    private static void tokens() {
        d.part("II: TOKENS: longest rows of letters a .. z, of digits, single other bytes");
        fault(true, "skipsif1=1", 0);
        fault(true, "skips if1=1", -1);
        fault(true, "beats1if1=1", -1);
        fault(true, "beats 1 2", 8);
        fault(true, "beats 12", -1);
        fault(true, "beats 1child", 7);
        fault(true, "beats child1", 11);
        fault(true, "skips;skips", -1);
        fault(true, "skips;;skips", 6);
        fault(true, "Skips", 0);
        fault(true, "skipS", 0);
        fault(true, "skipsS", 5);
        fault(true, "skips,", 5);
        fault(true, "skipsz", 0);
        fault(true, "skipsa", 0);
        fault(true, "skips0", 5);
        fault(true, "skips9", 5);
        fault(true, "beats 0z", 7);
        fault(true, "beats 9a", 7);
        // The bytes next to a, z, 0, 9 are no letters and no digits.
        for (char c : new char[] {'`', '{', '/', ':', '@', 'A', 'Z', 0, 31, 33, 127, 128, 255, '\t', '\n', 225, 176, 160}) {
            fault(true, c + "skips", 0);
            fault(true, "skips" + c, 5);
            fault(true, "beats " + c + "1", 6);
            fault(false, "pass" + c, 4);
            fault(true, "beats 1 " + c + " ", c == '/' ? 10 : 8);
        }
        fault(false, "pass times2", -1);
        fault(false, "passtimes 2", 0);
        fault(false, "pass times 2if 1=1", -1);
        fault(false, "leave in0", -1);
        fault(false, "leave inn 0", 6);
    }

    private static void blanks() {
        d.part("II: any blanks (32) between");
        fault(true, "   skips   if   (   1   +   [   2   ]   <   3   )   and   not   1   =   1   ;   turns   ", -1);
        fault(true, "beats[1]*[2];skips if(1=1)and(2=2)", -1);
        fault(true, "be ats 1", 0);
        fault(true, "beats 1 0", 8);
        fault(true, "skips i f 1=1", 6);
    }

    private static void twelveClauses() {
        d.part("II: CLAUSE {\";\" CLAUSE}, 12 at most (FAULT at the 13th's first TOKEN)");
        fault(true, "skips", -1);
        fault(true, many("skips;", 11) + "skips", -1);
        fault(true, many("skips;", 12) + "skips", 72);
        fault(true, many("skips;", 12) + "   turns if 1=1", 75);
        fault(true, many("skips;", 12) + "?", 72);
        fault(true, many("skips;", 12), 72);
        fault(true, many("skips;", 12) + " ", 73);
        fault(true, many("skips;", 11) + "skips 1", 72);
        fault(true, many("skips;", 11), 66);
        fault(false, many("pass;", 11) + "pass", -1);
        fault(false, many("pass;", 12) + "pass", 60);
        fault(false, many("pass;", 12), 60);
        ItByRhyme x = Due.ring(2, 9);
        Due.law(x, many("turns if 1=2;", 11) + "beats 4");
        x.force(0);
        d.due("the twelfth of a law counts", x.asks(0, 0, 0, 0), 4);
        d.due("the twelfth of orders is run", Due.orders(x, many("pass;", 11) + "leave 1"), 12);
        d.due("one is in", x.count(1), 1);
        d.due("all of twelve, twenty times", Due.orders(x, many("pass times 20;", 11) + "pass times 20"), 240);
        d.due("round", x.count(12), 251);
    }

    private static void numbersTo1000() {
        d.part("II: PART: NUMBER (to 1,000)");
        faults("0", -1);
        faults("1000", -1);
        faults("1001", 6);
        faults("9999", 6);
        faults("10000", 6);
        faults("10001", 6);
        faults("1000000", 6);
        faults("2147483648", 6);
        faults("4294967296", 6);
        faults("18446744073709551616", 6);
        faults("0001000", -1);
        faults("0001001", 6);
        faults("1+1001", 8);
        faults("-1", 6);
        ItByRhyme x = Due.ring(2, 9);
        Due.law(x, "beats 3 if 1000=999+1;beats 4 if 1000*1=1000 and 0=1-1 and 007=7");
        x.force(0);
        d.due("1000 is 1000", x.asks(0, 0, 0, 0), 4);
    }

    private static void fiftyParts() {
        d.part("II: 50 PARTS that are NUMBERS and words (FAULT at the 51st)");
        faults(many("1+", 49) + "1", -1);
        faults(many("1+", 50) + "1", 106);
        faults(many("1+", 50) + "many", 106);
        faults(many("1+", 49) + "many", -1);
        faults(many("many+", 49) + "1", -1);
        faults(many("many+", 50) + "1", 256);
        faults(many("1+", 50) + "?", 106);
        faults(many("1+", 50), 106);
        faults(many("1+", 50) + "[1]", 107);
        faults(many("1+", 49) + "[1]", -1);
        faults(many("[1]+", 49) + "1", -1);
        faults(many("1+", 24) + "1 if " + many("1+", 23) + "1=1", -1);
        faults(many("1+", 24) + "1 if " + many("1+", 23) + "1=1+1", 109);
        fault(true, "beats " + many("1+", 24) + "1;beats " + many("1+", 24) + "1", -1);
        fault(true, "beats " + many("1+", 24) + "1;beats " + many("1+", 25) + "1", 112);
        d.part("II: C, TIMES aside, NUMBERS and words count as PARTS");
        fault(false, "leave " + many("in 1+", 49) + "in 1 times 20", -1);
        fault(false, "leave " + many("in 1+", 49) + "in 1 times 20 if 1=1", 6 + 5 * 49 + 17);
        fault(false, "leave " + many("in 1+", 50) + "in 1", 6 + 250);
        fault(false, "leave " + many("quick 1+", 24) + many("1+", 25) + "quick 5 times 1", -1);
        ItByRhyme x = Due.ring(2, 9);
        Due.law(x, "beats [" + many("1+", 48) + "1]/7");
        x.force(0);
        d.due("all of fifty are summed", x.asks(0, 0, 0, 0), 7);
        Due.law(x, "beats " + many("1+", 7) + "1;turns if " + many("1*", 40) + "beat=1");
        x.force(1);
        d.dues("the fiftieth counts", new long[] {x.asks(0, 0, 0, 0), x.asks(0, 0, 1, 2), x.asks(0, 0, 2, 2)}, 8, 1, 0);
    }

    private static void eightBrackets() {
        d.part("II: 8 brackets of both kinds within one another (FAULT at the 9th) at most");
        faults(many("[", 8) + "1" + many("]", 8), -1);
        faults(many("[", 9) + "1" + many("]", 9), 14);
        faults(many("[", 9), 14);
        faults(many("[", 8), 14);
        faults("1 if " + many("(", 8) + "1=1" + many(")", 8), -1);
        faults("1 if " + many("(", 9) + "1=1" + many(")", 9), 19);
        faults("1 if " + many("(", 3) + many("[", 5) + "1" + many("]", 5) + "=1" + many(")", 3), -1);
        faults("1 if " + many("(", 3) + many("[", 6) + "1" + many("]", 6) + "=1" + many(")", 3), 19);
        faults("1 if " + many("(", 8) + "1=[1]" + many(")", 8), 21);
        faults("1 if " + many("(", 7) + "[1]=[1]" + many(")", 7), -1);
        faults("1 if " + many("(1=1) and ", 9) + "(1=1)", -1);
        faults(many("[1]+", 20) + "[1]", -1);
        faults(many("[", 8) + "1" + many("]", 8) + "+" + many("[", 8) + "1" + many("]", 8), -1);
        faults(many("[", 8) + "1" + many("]", 8) + " if " + many("(", 8) + "1=1" + many(")", 8), -1);
        faults(many("[", 8) + "1" + many("]", 9), 23);
        faults(many("[", 8) + "1" + many("]", 7), 22);
        faults("1 if not " + many("(not ", 8) + "1=1" + many(")", 8), -1);
    }

    private static void faultAtTheEnd() {
        d.part("II: FAULT: the first TOKEN that can't go on there (the end's: the TEXT's length)");
        fault(true, "", 0);
        fault(false, "", 0);
        fault(true, " ", 1);
        fault(false, "     ", 5);
        fault(true, "beats", 5);
        fault(true, "beats  ", 7);
        fault(true, "beats 1+", 8);
        fault(true, "beats 1 if", 10);
        fault(true, "beats 1 if 1", 12);
        fault(true, "beats 1 if 1=", 13);
        fault(true, "beats 1 if not", 14);
        fault(true, "beats 1 if 1=1 or", 17);
        fault(true, "beats 1 if (1=1", 15);
        fault(true, "beats [1", 8);
        fault(true, "skips;", 6);
        fault(false, "say", 3);
        fault(false, "pass times", 10);
        fault(false, "pass if", 7);
        fault(false, "say in", 6);
        fault(false, "say in ", 7);
        fault(false, "say 1)", 5);
        fault(false, "say 1]", 5);
        fault(true, "skips if 1=1=1", 12);
        fault(true, "skips if (1)=1", 11);
        fault(true, "skips if [1=1]", 11);
    }

    private static void faultOfTheLatest() {
        d.part("14: FAULT of the latest law(), orders() that read a TEXT: its place; NONE without");
        ItByRhyme x = Due.ring(2, 1);
        d.due("none was read", x.fault(), -1);
        Due.law(x, "skips skips");
        d.due("of a law", x.fault(), 6);
        Due.orders(x, "pass;say 0+");
        d.due("of orders", x.fault(), 11);
        x.row();
        Due.put(x, "\1");
        x.row();
        x.force(7);
        d.due("others leave it", x.fault(), 11);
        Due.orders(x, "join 0");
        d.due("orders that can't be have none", x.fault(), -1);
        x.law();
        d.due("of a text that is empty", x.fault(), 0);
        for (int l = 0; l < 6; l++) d.due("law", Due.law(x, "skips"), l);
        d.due("none", x.fault(), -1);
        Due.orders(x, "  ?");
        d.due("no room", Due.law(x, "skips"), -5);
        d.due("that was not read", x.fault(), 2);
        x.orders();
        d.due("orders that are empty", x.fault(), 0);
    }

    /** What "beats SUM" tells of a RHYME of 9 BEATS: 9 if it is BROKEN. */
    private static void sum(String sum, int want) {
        ItByRhyme x = Due.ring(3, 9);
        Due.law(x, "beats " + sum);
        x.force(0);
        d.due("beats " + sum, x.asks(0, 0, 0, 0), want);
    }

    private static void billionEitherWay() {
        d.part("II: Beyond 1,000,000,000 either way");
        String billion = "1000*1000*1000";
        sum(billion, 15);
        sum(billion + "+0", 15);
        sum(billion + "+1", 9);
        sum(billion + "-1", 15);
        sum("1+" + billion, 9);
        sum("0-" + billion, 1);
        sum("0-" + billion + "-1", 9);
        sum("0-1-" + billion, 9);
        sum(billion + "*[0-1]", 1);
        sum("[0-1-" + billion + "]", 9);
        sum("[1+" + billion + "]-1", 9);
        sum("1000+" + billion + "/1000", 15);
        sum(billion + "*1000", 9);
        sum(billion + "*1000/" + billion, 9);
        sum(billion + "*0", 1);
        sum(billion + "*" + billion + "*" + billion + "*" + billion, 9);
        sum("[" + billion + "]*[" + billion + "]-[" + billion + "]*[" + billion + "]", 9);
        sum(billion + "-" + billion + "+3", 3);
        sum("4;beats 5 if " + billion + "+1>0", 4);
        sum("4;beats 5 if " + billion + ">0", 5);
        sum("4;beats 5 if 0-" + billion + "<0", 5);
        sum("4;beats 5 if 0-" + billion + "-1<0", 4);
        sum("4;beats 5 if not " + billion + "+1>0", 4);
        sum("4;beats 5 if 0-" + billion + "<" + billion, 5);
        ItByRhyme x = Due.ring(3, 1);
        d.due("orders: not beyond", Due.orders(x, "leave " + billion + "-1000*1000*1000+2"), 1);
        d.due("orders: beyond", Due.orders(x, "leave " + billion + "+1-1000*1000*1000"), -3);
        d.due("a test beyond is not so", Due.orders(x, "pass if " + billion + "+1>1"), 0);
    }

    private static void dividing() {
        d.part("II: or divided by 0 (/ cut towards 0, % what is left then)");
        sum("1/0", 9);
        sum("0/0", 9);
        sum("1%0", 9);
        sum("0%0", 9);
        sum("1/[1-1]", 9);
        sum("0/1+2", 2);
        sum("0%1+2", 2);
        sum("7/2", 3);
        sum("[0-7]/2+8", 5);
        sum("7/[0-2]+8", 5);
        sum("[0-7]/[0-2]", 3);
        sum("7%2+1", 2);
        sum("[0-7]%2+8", 7);
        sum("7%[0-2]+8", 9);
        sum("[0-7]%[0-4]+8", 5);
        sum("1/2+3", 3);
        sum("[0-1]/2+3", 3);
        sum("[0-1000*1000*1000]/[0-1]", 15);
        sum("[0-1000*1000*1000]%[0-1]+4", 4);
        sum("4;beats 5 if 1/0=1", 4);
        sum("4;beats 5 if not 1%0=1", 4);
    }

    private static void deepestSums() {
        d.part("II: SUM: TERM {(\"+\" | \"-\") TERM}. TERM: PART {(\"*\" | \"/\" | \"%\") PART}");
        sum(many("1+1*[", 8) + "2" + many("]", 8), 10);
        sum("1;beats 2 if " + many("1+1*[", 8) + "2" + many("]", 8) + "=" + many("1+1*[", 8) + "2" + many("]", 8), 2);
        sum("1;beats 3 if " + many("(1=2 or 1=1 and ", 7) + "1=0+1*[1]" + many(")", 7), 3);
        sum("8-4-2", 2);
        sum("8-4+2", 6);
        sum("80/4/2", 10);
        sum("80/4*2-30", 10);
        sum("7%4*3", 9);
        sum("2*7%4", 2);
        sum("2+3*4-5", 9);
        sum("20-2*3+4/2", 15);
        sum("[20-2*3]/2", 7);
    }

    private static void allFifty() {
        d.part("II: TEST: BOTH {\"or\" BOTH}. BOTH: PLAIN {\"and\" PLAIN}. PLAIN: \"not\" PLAIN | \"(\" TEST \")\"");
        // With the 4 and the 5 these are 49 or 50 PARTS.
        sum("4;beats 5 if " + many("1=1 and ", 23) + "2=2", 5);
        sum("4;beats 5 if " + many("1=1 and ", 23) + "2=1", 4);
        sum("4;beats 5 if " + many("1=2 or ", 23) + "2=2", 5);
        sum("4;beats 5 if " + many("1=2 or ", 23) + "2=1", 4);
        sum("4;beats 5 if " + many("1=2 or 1=1 and ", 11) + "2=2", 5);
        sum("4;beats 5 if " + many("1=1 and 1=2 or ", 11) + "2=2", 5);
        sum("4;beats 5 if " + many("not ", 60) + "1=1", 5);
        sum("4;beats 5 if " + many("not ", 61) + "1=1", 4);
        String[] so = {"1<2", "2>1", "2=2", "not 2<1", "not 1>2", "not 1=2", "(1<2)", "not (2<2)"};
        String[] notSo = {"2<2", "2<1", "1>2", "2>2", "1=2", "not 1<2", "not 2>1", "not 2=2", "(1>2)", "not (1<2)"};
        for (String yes : so) {
            sum("4;beats 5 if " + yes, 5);
            for (String no : notSo) {
                sum("4;beats 5 if " + no, 4);
                sum("4;beats 5 if " + yes + " and " + no, 4);
                sum("4;beats 5 if " + no + " and " + yes, 4);
                sum("4;beats 5 if " + yes + " or " + no, 5);
                sum("4;beats 5 if " + no + " or " + yes, 5);
                sum("4;beats 5 if not (" + yes + " and " + no + ")", 5);
                sum("4;beats 5 if " + no + " or " + no + " and " + yes, 4);
                sum("4;beats 5 if (" + yes + " or " + no + ") and " + no, 4);
            }
        }
    }

    private static void wordsOfLaws() {
        d.part("II: Words: \"child\" | \"quick\" | \"rhyme\" | \"beat\" | \"many\" | \"round\" | \"mood\"");
        ItByRhyme x = new ItByRhyme();
        int[] quick = {0, 3, 4, 5, 6, 9};
        for (int q : quick) x.child(q);
        for (int r = 0; r < 5; r++) x.rhyme(r + 1);
        for (String word : new String[] {"child", "quick", "rhyme", "many", "round/100", "mood"}) Due.law(x, "beats 1+" + word);
        x.force(0);
        d.dues("child", new long[] {x.asks(4, 0, 9, 0), x.asks(4, 5, 9, 0)}, 1, 6);
        x.force(1);
        d.dues("quick", new long[] {x.asks(4, 0, 9, 0), x.asks(4, 1, 9, 0), x.asks(4, 5, 9, 0)}, 1, 4, 10);
        x.force(2);
        d.dues("rhyme", new long[] {x.asks(0, 3, 9, 0), x.asks(4, 3, 9, 0)}, 1, 5);
        x.force(3);
        d.due("six are in", x.asks(4, 3, 9, 0), 7);
        for (int c = 0; c < 6; c++) x.leave(c);
        d.due("none is in", x.asks(4, 3, 9, 0), 1);
        x.force(4);
        d.due("round 0", x.asks(4, 3, 9, 0), 1);
        x.terms(0, 999);
        d.due("round 999", x.asks(4, 3, 9, 0), 10);
        x.force(5);
        d.due("mood 0", x.asks(4, 3, 9, 0), 1);
        x.terms(3, 9);
        d.due("mood 9", x.asks(4, 3, 9, 0), 10);
        ItByRhyme y = Due.ring(2, 1);
        y.force(Due.law(y, "skips if beat=0;turns if beat=15;keeps if beat>0;beats 7+beat"));
        d.dues("beat", new long[] {y.asks(0, 0, 0, 1), y.asks(0, 0, 15, 1), y.asks(0, 0, 0, 2), y.asks(0, 0, 15, 2), y.asks(0, 0, 0, 3),
            y.asks(0, 0, 1, 3), y.asks(0, 0, 15, 0)}, 1, 0, 0, 1, 0, 1, 7);
        fault(true, "beats done", 6);
        fault(true, "beats latest", 6);
        fault(true, "beats at", 6);
        fault(false, "leave child", 6);
        fault(false, "leave rhyme", 6);
        fault(false, "leave beat", 6);
        fault(false, "leave mood", 6);
    }

    private static void stillMatters() {
        d.part("II: (\"or\", \"and\" ask what stands behind only if it can still matter)");
        sum("4;beats 5 if 1=1 or 1/0=1", 5);
        sum("4;beats 5 if 1=2 or 1/0=1", 4);
        sum("4;beats 5 if 1=1 and 1/0=1", 4);
        sum("4;beats 5 if 1=2 and 1/0=1", 4);
        sum("4;beats 5 if not (1=2 and 1/0=1)", 5);
        sum("4;beats 5 if not (1=1 or 1/0=1)", 4);
        sum("4;beats 5 if 1=2 and 1/0=1 or 1=1", 5);
        sum("4;beats 5 if 1=1 or 1/0=1 and 1/0=1 or 1/0=1", 5);
        sum("4;beats 5 if 1=2 and 1/0=1 and 1/0=1 or 2=2", 5);
        sum("4;beats 5 if 1/0=1 or 1=1", 4);
        sum("4;beats 5 if 1/0=1 and 1=2 or 1=1", 4);
        sum("4;beats 5 if (1=1 or 1/0=1) and 2=2", 5);
        sum("4;beats 5 if (1=2 or 2=2) and (1=1 or 1/0=1)", 5);
        ItByRhyme x = Due.ring(2, 1);
        d.due("of orders, too", Due.orders(x, "pass if 1=1 or 1/0=1;pass if 1=2 and 1/0=1 or 1=1;pass if 1/0=1 or 1=1"), 2);
    }

    private static void sixLaws() {
        d.part("II: LAWS, 6 at most; one is in FORCE (NONE at first: no CLAUSE)");
        ItByRhyme x = Due.ring(2, 9);
        for (int l = 0; l < 6; l++) {
            d.due("laws", x.count(3), l);
            d.due("none such yet", x.force(l), -2);
            d.due("law", Due.law(x, "beats " + (l + 1)), l);
            d.due("in force", x.count(11), -1);
        }
        d.due("no clause", x.asks(0, 0, 0, 0), 9);
        for (int l = 5; l >= 0; l--) {
            x.force(l);
            d.due("by law " + l, x.asks(0, 0, 0, 0), l + 1);
        }
        d.due("the seventh", Due.law(x, "beats 7"), -5);
        d.due("laws", x.count(3), 6);
    }

    private static ItByRhyme with(ItByRhyme x, String tape) {
        x.end(0);
        Due.put(x, tape);
        return x;
    }

    private static void lawRefused() {
        d.part("12: -5 (ahead of reading it; the TAPE is empty then, too); -6 (blanks alone: FAULT at the end)");
        twins.refusedText("no room, a law", () -> with(Twins.full(), "beats 7"), ItByRhyme::law, -5, -1, -1);
        twins.refusedText("no room, no law either", () -> with(Twins.full(), "beats"), ItByRhyme::law, -5, -1, -1);
        twins.refusedText("no room, an empty tape", () -> with(Twins.full(), ""), ItByRhyme::law, -5, -1, -1);
        twins.refusedText("an empty tape", () -> with(Twins.rich(), ""), ItByRhyme::law, -6, 0, 1);
        twins.refusedText("a blank", () -> with(Twins.rich(), " "), ItByRhyme::law, -6, 1, 1);
        twins.refusedText("blanks", () -> with(Twins.rich(), many(" ", 33)), ItByRhyme::law, -6, 33, 1);
        twins.refusedText("no law", () -> with(Twins.rich(), "skips;turns;keeps;pass"), ItByRhyme::law, -6, 18, 1);
        ItByRhyme x = Due.ring(1, 1);
        d.due("a law", Due.law(x, "keeps"), 0);
        d.due("the tape is empty", x.count(5), 0);
        d.due("so nothing is read again", x.law(), -6);
        d.due("the fifth", Due.law(x, "keeps") + Due.law(x, "keeps") + Due.law(x, "keeps") + Due.law(x, "keeps"), 1 + 2 + 3 + 4);
        d.due("one that can't be takes no room", Due.law(x, "keep"), -6);
        d.due("the sixth", Due.law(x, "keeps"), 5);
    }

    private static void lawHolds() {
        d.part("II: A CLAUSE HOLDS, if its \"if\" (if it has one) is so, and neither that nor its SUM is BROKEN");
        String[] verbs = {"skips", "turns", "keeps"};
        for (int v = 0; v < 3; v++) {
            ItByRhyme x = Due.ring(2, 9);
            String verb = verbs[v];
            Due.law(x, verb);
            Due.law(x, verb + " if 1=2");
            Due.law(x, verb + " if 1/0=1");
            Due.law(x, verb + " if not 1/0=1");
            Due.law(x, verb + " if 1/0=1;" + verb + " if 1=1;" + verb + " if 1=2");
            Due.law(x, verbs[(v + 1) % 3] + ";" + verbs[(v + 2) % 3]);
            int[] want = {1, 0, 0, 0, 1, 0};
            d.due(verb + ": no law", x.asks(0, 0, 1, 1 + v), 0);
            for (int l = 0; l < 6; l++) {
                x.force(l);
                d.due(verb + ": law " + l, x.asks(0, 0, 1, 1 + v), want[l]);
            }
        }
        sum("4;beats 1/0;beats 6 if 1=2;beats 7 if 1/0=0", 4);
        sum("4;beats 0-5", 1);
        sum("4 if 1=1;beats 5 if 1=1;beats 6 if 1=2", 5);
        sum("4 if beat=0;beats 5 if beat>0", 4);
    }

    private static void timesFromTo() {
        d.part("II: TIMES: a NUMBER 1 .. 20");
        fault(false, "pass times 0", 11);
        fault(false, "pass times 1", -1);
        fault(false, "pass times 20", -1);
        fault(false, "pass times 21", 11);
        fault(false, "pass times 1000", 11);
        fault(false, "pass times 4294967297", 11);
        fault(false, "pass times 020", -1);
        fault(false, "pass times round", 11);
        fault(false, "pass times [1]", 11);
        fault(false, "pass times", 10);
        fault(false, "pass times 2 times 2", 13);
        fault(false, "pass times 2 if 1=1", -1);
        fault(false, "pass if 1=1 times 2", 12);
        fault(true, "skips times 2", 6);
        ItByRhyme x = Due.ring(2, 1);
        d.due("once without", Due.orders(x, "pass"), 1);
        d.due("once", Due.orders(x, "pass times 1"), 1);
        d.due("twenty times", Due.orders(x, "pass times 20"), 20);
        d.due("round", x.count(12), 22);
    }

    private static void numbersOfChildren() {
        d.part("II: (C: a NUMBER 0 .. 5)");
        for (String word : new String[] {"in", "quick"}) {
            int at = 7 + word.length();
            fault(false, "leave " + word + " 0", -1);
            fault(false, "leave " + word + " 5", -1);
            fault(false, "leave " + word + " 6", at);
            fault(false, "leave " + word + " 005", -1);
            fault(false, "leave " + word + " 1001", at);
            fault(false, "leave " + word + " 4294967296", at);
            fault(false, "leave " + word + " -1", at);
            fault(false, "leave " + word + " [0]", at);
            fault(false, "leave " + word + " at", at);
            fault(false, "leave " + word, at - 1);
        }
        fault(true, "beats quick 0", 12);
        fault(true, "beats in 0", 6);
    }

    private static void runs(ItByRhyme x, String test) {
        d.due("pass if " + test, Due.orders(x, "pass if " + test), 1);
        x.undo();
    }

    private static void wordsOfOrders() {
        d.part("II: latest .. (-1: none), in: (1, 0; -1: no such CHILD), quick: -1 without such a CHILD");
        ItByRhyme x = new ItByRhyme();
        runs(x, "in 0=0-1 and in 5=0-1 and quick 0=0-1 and quick 5=0-1 and many=0 and at=0 and round=0 and done=0 and latest=0-1");
        x.child(0);
        runs(x, "in 0=1 and in 1=0-1 and quick 0=0 and quick 1=0-1 and many=1");
        x.leave(0);
        runs(x, "in 0=0 and quick 0=0 and many=0");
        for (int c = 1; c < 6; c++) x.child(c + 4);
        x.terms(1, 5);
        x.terms(0, 998);
        runs(x, "in 5=1 and in 0=0 and quick 5=9 and quick 1=5 and many=5 and at=5 and round=998");
        ItByRhyme y = Due.ring(3, 1);
        y.terms(1, 5);
        runs(y, "at=5");
        Due.law(y, "keeps if child=2");
        y.force(0);
        d.due("latest of who stays", Due.orders(y, "say 0;pass if latest=102"), 2);
        d.due("latest of who is out", Due.orders(y, "say 0;pass if latest=0"), 2);
        d.due("latest stays behind what is no saying", Due.orders(y, "say 0;leave 1;join 1;pass if latest=0"), 4);
        d.due("of this text alone", Due.orders(y, "pass if latest=0-1 and done=0"), 1);
        d.due("done counts those that were run", Due.orders(y, "pass if 1=2;pass;pass if done=1;pass times 3;pass if done=5"), 6);
        d.due("done within times", Due.orders(y, "pass times 20 if done<7"), 7);
    }

    private static void ordersAsked() {
        d.part("II: each time its \"if\" is asked (not run, if it is not so or BROKEN), then its SUMS");
        ItByRhyme x = Due.ring(4, 1);
        d.due("not so", Due.orders(x, "pass if 1=2"), 0);
        d.due("not refused", x.status(), 0);
        d.due("broken", Due.orders(x, "pass if 1/0=1"), 0);
        d.due("not refused", x.status(), 0);
        d.due("nothing to undo", x.count(4), 0);
        d.due("its sum is not asked then", Due.orders(x, "say 1/0 if 1=2;join 9 if 1/0=1;leave 6 if 1=2"), 0);
        d.due("each time", Due.orders(x, "leave 4-many times 9 if many>1"), 3);
        d.dues("in", new long[] {x.of(0, 1), x.of(1, 1), x.of(2, 1), x.of(3, 1)}, 0, 0, 0, 1);
        d.due("sums each time anew", Due.orders(x, "join done times 3"), 3);
        d.due("in the middle alone", Due.orders(x, "leave 3;pass times 5 if round=0;leave 3"), 3);
    }

    private static ItByRhyme orderly(String tape) {
        ItByRhyme x = Due.ring(3, 2, 5);
        x.image(0);
        x.terms(0, 980);
        x.terms(1, 4);
        x.leave(1);
        x.join(1);
        x.quarters(5, 5);
        Due.put(x, tape);
        return x;
    }

    private static void ordersWhollyOrNot() {
        d.part("II: One that can't be (a BROKEN SUM, as say(), join(), leave(), pass() are REFUSED) ends it: all is as it was");
        String[] cannot = {"say 2", "say 0-1", "say 1000", "say 1/0", "join 3", "join 0-1", "join 0", "join 1%0", "leave 3", "leave 0-1",
            "leave 1000*1000*1000+1", "say 0 times 3", "leave 0 times 2", "pass times 19", "join 1000*1000*1000"};
        for (String wrong : cannot) {
            twins.refusedText("at once: " + wrong, () -> orderly(wrong.replace("19", "20")), ItByRhyme::orders, -3, -1, 0);
            String text = "pass;leave 2;say 0;join 2;join 1;" + wrong + ";pass";
            twins.refusedText(text, () -> orderly(text), ItByRhyme::orders, -3, -1, 5);
        }
        twins.refusedText("say with one in", () -> orderly("leave 0;leave 1;say 0"), ItByRhyme::orders, -3, -1, 2);
        twins.refusedText("with none in", () -> orderly("leave 0;leave 1;leave 2;say 0"), ItByRhyme::orders, -3, -1, 3);
        twins.refusedText("leave one out", () -> orderly("leave 0;leave 0"), ItByRhyme::orders, -3, -1, 1);
        twins.refusedText("the last of twelve", () -> orderly(many("pass;", 11) + "join 0"), ItByRhyme::orders, -3, -1, 11);
        twins.refusedText("the last of twenty", () -> orderly("pass times 20"), ItByRhyme::orders, -3, -1, 0);
        ItByRhyme x = orderly("pass times 19");
        d.due("till 999", x.orders(), 19);
        d.due("round", x.count(12), 999);
    }

    private static void ordersRefused() {
        d.part("13: how many were run. -3 one can't be; -6 (as for law())");
        twins.refusedText("an empty tape", () -> orderly(""), ItByRhyme::orders, -6, 0, -1);
        twins.refusedText("a blank", () -> orderly(" "), ItByRhyme::orders, -6, 1, -1);
        twins.refusedText("blanks", () -> orderly(many(" ", 21)), ItByRhyme::orders, -6, 21, -1);
        twins.refusedText("nothing is run of it", () -> orderly("pass;pass;pas"), ItByRhyme::orders, -6, 10, -1);
        twins.refusedText("-6, though one can't be either", () -> orderly("join 0;pas"), ItByRhyme::orders, -6, 7, -1);
        ItByRhyme x = orderly("pass");
        d.due("run", x.orders(), 1);
        d.due("the tape is empty", x.count(5), 0);
        d.due("so nothing is run again", x.orders(), -6);
    }

    private static void stoppedEdges() {
        d.part("15: Which CLAUSE of the latest orders() could not be. NONE");
        ItByRhyme x = Due.ring(2, 1);
        d.due("ahead of any", x.stopped(), -1);
        Due.orders(x, "join 0");
        d.due("the first", x.stopped(), 0);
        Due.law(x, "?");
        Due.law(x, "keeps");
        x.row();
        x.pass();
        d.due("others leave it", x.stopped(), 0);
        Due.orders(x, many("pass;", 11) + "join 0");
        d.due("the twelfth", x.stopped(), 11);
        Due.orders(x, "pass");
        d.due("none could not", x.stopped(), -1);
        Due.orders(x, "pass;pass if 1=2;pass;say 9");
        d.due("those that were not run count", x.stopped(), 3);
        Due.orders(x, "pas");
        d.due("none was run", x.stopped(), -1);
        Due.orders(x, "pass times 5;leave 0 times 2;pass");
        d.due("clauses, not times", x.stopped(), 1);
    }

    private static void rows() {
        d.part("IV: A ROW: QUICK: a CHILD; one that can't be, one for which there is no room is a LISP: none");
        ItByRhyme x = new ItByRhyme();
        Due.put(x, "\0\11\12\377\200\40");
        d.due("0 and 9 come", x.row(), 2);
        d.due("10, 255, 128, 32 can't be", x.lisps(), 4);
        d.dues("quick", new long[] {x.of(0, 0), x.of(1, 0), x.count(0)}, 0, 9, 2);
        d.due("the tape is empty", x.count(5), 0);
        Due.put(x, "\1\177\2\3\4\5\6");
        d.due("as many as there is room for", x.row(), 4);
        d.due("one that can't be, two without room", x.lisps(), 3);
        d.dues("quick", new long[] {x.of(2, 0), x.of(5, 0), x.count(0)}, 1, 4, 6);
        Due.put(x, "\1");
        d.due("none comes where there is no room", x.row(), 0);
        d.dues("a lisp, not refused", new long[] {x.lisps(), x.status(), x.count(9)}, 1, 0, 0);
        d.part("10: -6 the TAPE is empty");
        twins.refused("row()", () -> with(Twins.rich(), ""), ItByRhyme::row, -6);
        twins.refused("row(), no room either", Twins::full, ItByRhyme::row, -6);
        d.part("11: How many LISPS the latest row() had that was not REFUSED (0 ahead of any)");
        ItByRhyme y = new ItByRhyme();
        d.due("ahead of any", y.lisps(), 0);
        y.row();
        d.due("a refused one", y.lisps(), 0);
        for (int i = 0; i < 20; i++) y.feed(-1, -1, -1, -1, -1);
        d.due("none of 400", y.row(), 0);
        d.due("400 lisps", y.lisps(), 400);
        y.row();
        d.due("a refused one leaves them", y.lisps(), 400);
        Due.put(y, "\5");
        d.due("one", y.row(), 1);
        d.due("no lisps", y.lisps(), 0);
    }
}
