/** Promises 12 to 15: the two languages, where their FAULTS are, orders run wholly or not at all. */
public final class TextsTest {
    private static final Due d = new Due();

    public static void main(String[] args) {
        lawNumbersAndRoom();
        faultsOfLaws();
        faultsOfOrders();
        limits();
        sums();
        brokenOnes();
        tests();
        ordersRun();
        ordersWords();
        ordersNotAtAll();
        d.close();
    }

    private static String many(String s, int n) {
        return s.repeat(n);
    }

    private static void lawNumbersAndRoom() {
        d.part("12, 14");
        ItByRhyme x = new ItByRhyme();
        d.due("an empty tape", x.law(), -6);
        d.due("fault at the end", x.fault(), 0);
        d.due("blanks alone", Due.law(x, "   "), -6);
        d.due("fault at the end", x.fault(), 3);
        for (int l = 0; l < 6; l++) d.due("law", Due.law(x, "skips"), l);
        d.due("no fault", x.fault(), -1);
        Due.orders(x, "x");
        d.due("fault", x.fault(), 0);
        Due.put(x, "skips y");
        d.due("no room, ahead of reading", x.law(), -5);
        d.due("fault of the latest that was read", x.fault(), 0);
        d.due("the tape is empty", x.count(5), 0);
        d.due("no room on an empty tape, too", x.law(), -5);
        d.due("orders read all the same", Due.orders(x, "pass"), 1);
        d.due("fault", x.fault(), -1);
        d.due("laws", x.count(3), 6);
    }

    private static void fault(boolean law, String text, int want) {
        d.due("fault of: " + text, Due.faultOf(law, text), want);
    }

    private static void faultsOfLaws() {
        d.part("14 of laws");
        fault(true, "beats 5", -1);
        fault(true, "  beats5if child=1", -1);
        fault(true, "Beats 5", 0);
        fault(true, "skipsz", 0);
        fault(true, "skip", 0);
        fault(true, "skips;", 6);
        fault(true, "skips;  ", 8);
        fault(true, ";skips", 0);
        fault(true, "skips skips", 6);
        fault(true, "skips times 2", 6);
        fault(true, "beats", 5);
        fault(true, "beats if child=1", 6);
        fault(true, "beats 1000", -1);
        fault(true, "beats 1001", 6);
        fault(true, "beats 99999999999999999999", 6);
        fault(true, "beats 0000000000000000000000001000", -1);
        fault(true, "beats 1 2", 8);
        fault(true, "beats 1 + - 2", 10);
        fault(true, "beats -1", 6);
        fault(true, "beats done", 6);
        fault(true, "beats childs", 6);
        fault(true, "beats (1)", 6);
        fault(true, "beats [1)", 8);
        fault(true, "beats [1", 8);
        fault(true, "beats [1]]", 9);
        fault(true, "skips if child", 14);
        fault(true, "skips if child=", 15);
        fault(true, "skips if child==1", 15);
        fault(true, "skips if child<=1", 15);
        fault(true, "skips if [child=1]", 15);
        fault(true, "skips if (child=1", 17);
        fault(true, "skips if (child)=1", 15);
        fault(true, "skips if child=1 and", 20);
        fault(true, "skips if child=1 or or 1=1", 20);
        fault(true, "skips if not", 12);
        fault(true, "skips if notnot 1=1", 9);
        fault(true, "skips if not not (not 1=1 or 2=2) and 3=3", -1);
        fault(true, "skips if 1=1 if 2=2", 13);
        fault(true, "skips" + (char) 0, 5);
        fault(true, "skips" + (char) 233, 5);
        fault(true, "skips\tif 1=1", 5);
    }

    private static void faultsOfOrders() {
        d.part("14 of orders");
        fault(false, "", 0);
        fault(false, "  ", 2);
        fault(false, "pass", -1);
        fault(false, "pass 1", 5);
        fault(false, "skips", 0);
        fault(false, "say", 3);
        fault(false, "say child", 4);
        fault(false, "say 0 times", 11);
        fault(false, "say 0 times 0", 12);
        fault(false, "say 0 times 21", 12);
        fault(false, "say 0 times 20 if round>9", -1);
        fault(false, "say 0 times 1+1", 13);
        fault(false, "say 0 if round>9 times 2", 17);
        fault(false, "say in", 6);
        fault(false, "say in 6", 7);
        fault(false, "say in round", 7);
        fault(false, "say quick [1]", 10);
        fault(false, "pass if quick5=in 05", -1);
        fault(false, "say at+latest*done/many%round-in 0", -1);
        fault(false, "say beat", 4);
    }

    private static void limits() {
        d.part("14: limits");
        fault(true, many("skips;", 11) + "skips", -1);
        fault(true, many("skips;", 12) + "skips", 72);
        fault(true, many("skips;", 12), 72);
        fault(true, many("skips;", 12) + "  ?", 74);
        fault(true, "beats " + many("1+", 49) + "1", -1);
        fault(true, "beats " + many("1+", 50) + "1", 106);
        fault(true, "beats " + many("1+", 50) + "[1]", 107);
        fault(true, "beats " + many("1+", 24) + "1;skips if " + many("1+", 23) + "1=many", -1);
        fault(true, "beats " + many("1+", 24) + "1;skips if " + many("1+", 24) + "1=many", 115);
        fault(false, "pass times 3 if " + many("in 1+", 48) + "in 1=in 2", -1);
        fault(false, "pass times 3 if " + many("in 1+", 49) + "in 1=in 2", 16 + 5 * 49 + 5);
        fault(true, "beats " + many("[", 8) + "1" + many("]", 8), -1);
        fault(true, "beats " + many("[", 9) + "1" + many("]", 9), 14);
        fault(true, "skips if " + many("(", 8) + "1=1" + many(")", 8), -1);
        fault(true, "skips if " + many("(", 9) + "1=1" + many(")", 9), 17);
        fault(true, "skips if " + many("(", 4) + many("[", 4) + "1" + many("]", 4) + "=1" + many(")", 4), -1);
        fault(true, "skips if " + many("(", 4) + many("[", 5) + "1" + many("]", 5) + "=1" + many(")", 4), 17);
        fault(true, "beats [1]+[2]*[3]+[4]+[5]+[6]+[7]+[8]+[9]+[10]", -1);
        fault(true, "skips if " + many("not ", 97) + "1", 398);
        fault(true, "skips if" + many(" not", 96) + " 1=2", -1);
    }

    /** What a SUM tells, 1 .. 15, by beats of a law asked of child 1 of 3 (quick 2), rhyme 1. */
    private static void sum(String sum, int want) {
        ItByRhyme x = Due.ring(3, 11, 12);
        x.terms(0, 5);
        x.terms(3, 8);
        Due.law(x, "beats " + sum);
        x.force(0);
        d.due("beats " + sum, x.asks(1, 1, 7, 0), want);
    }

    private static void sums() {
        d.part("sums");
        sum("2+3*4", 14);
        sum("[2+1]*4", 12);
        sum("10-4-3", 3);
        sum("100/10/5", 2);
        sum("17%10%4", 3);
        sum("2*7%4", 2);
        sum("[3-10]/2+9", 6);
        sum("[3-10]%4+9", 6);
        sum("7/[0-2]+9", 6);
        sum("7%[0-4]", 3);
        sum("child", 1);
        sum("quick", 2);
        sum("rhyme+5", 6);
        sum("beat+4", 4);
        sum("many", 3);
        sum("round", 5);
        sum("mood", 8);
        sum("999", 15);
        sum("0-999", 1);
    }

    private static void brokenOnes() {
        d.part("broken");
        sum("1/0", 12);
        sum("1%0", 12);
        sum("1000*1000*1000", 15);
        sum("1000*1000*1000+1", 12);
        sum("0-1000*1000*1000", 1);
        sum("0-1000*1000*1000-1", 12);
        sum("1000*1000*1000*1000/1000/1000", 12);
        sum("1000*1000*1000+1-1", 12);
        sum("0*[1/0]", 12);
        sum("4;beats 1/0", 4);
        sum("4;beats 5 if 1/0=0", 4);
        sum("4;beats 5 if not 1/0=0", 4);
        sum("4;beats 1/0 if 1=1;beats 6 if 1=2", 4);
        sum("4;beats 5 if 1=2 and 1/0=0 or 1=1", 5);
        sum("4;beats 5 if 1=1 or 1/0=0", 5);
        sum("4;beats 5 if not (1=2 and 1/0=0)", 5);
        sum("4;beats 5 if 1/0=0 or 1=1", 4);
        sum("4;beats 5 if 1=1 and 1/0=0 or 1=1", 4);
        sum("4;beats 5 if 1=2 or 1/0=0 or 1=1", 4);
    }

    private static void test(String test, boolean want) {
        sum("1;beats 2 if " + test, want ? 2 : 1);
    }

    private static void tests() {
        d.part("tests");
        test("1<2", true);
        test("2<2", false);
        test("2>1", true);
        test("1>1", false);
        test("2=2", true);
        test("1+1=4-2", true);
        test("1=1 or 1=2 and 1=2", true);
        test("(1=1 or 1=2) and 1=2", false);
        test("1=2 and 1=2 or 1=1", true);
        test("1=2 or 1=1 and 1=1", true);
        test("1=1 and 1=1 and 1=2", false);
        test("1=2 or 1=2 or 1=1", true);
        test("not 1=2", true);
        test("not not 1=2", false);
        test("not 1=2 and 1=2", false);
        test("not (1=2 and 1=2)", true);
        test("not 1=1 or 1=2", false);
        test("not 1=1", false);
        test("not not not (1=1)", false);
        test("((1=1) and (not (2=1)))", true);
        test("[1]<[[2]]", true);
    }

    private static void ordersRun() {
        d.part("13");
        ItByRhyme x = Due.ring(4, 2);
        d.due("each time counts", Due.orders(x, "leave 3;join 3;pass times 20"), 22);
        d.due("round", x.count(12), 20);
        d.due("sixteen are kept", x.count(4), 16);
        d.due("if is asked each time", Due.orders(x, "pass times 20 if round<25"), 5);
        d.due("the tape is empty", x.count(5), 0);
        d.due("none run", Due.orders(x, "pass if 1=2"), 0);
        d.due("none run, broken", Due.orders(x, "pass if 1/0=1"), 0);
        d.due("status", x.status(), 0);
        d.due("sums are not asked, if it is not so", Due.orders(x, "say 1/0 if 1=2"), 0);
        d.due("said: 1, 3, 2", Due.orders(x, "say 0 times 9 if many>1"), 3);
        d.dues("in", new long[] {x.of(0, 1), x.of(1, 1), x.of(2, 1), x.of(3, 1)}, 1, 0, 0, 0);
        d.due("by orders, too", x.undo(), 0);
        d.due("in", x.count(1), 2);
        d.due("-6", Due.orders(x, "pass;pas"), -6);
        d.due("fault", x.fault(), 5);
        d.due("nothing run", x.count(12), 25);
    }

    private static void ordersWords() {
        d.part("13: words");
        ItByRhyme x = Due.ring(4, 2, 3);
        d.due("done, latest", Due.orders(x, "pass if done=0 and latest=0-1;say 1 if done=1;join latest if latest=2"), 3);
        d.due("at is 3, many 4", Due.orders(x, "pass if at=3 and many=4 and round=1"), 1);
        d.due("in, quick", Due.orders(x, "leave 1 if in 1=1;leave 2 if in 1=0;leave 3 if in 4=0-1 and quick 3=4;"
            + "join 3 if quick 4=0-1"), 4);
        d.due("in", x.count(1), 2);
        ItByRhyme z = Due.ring(3, 1);
        d.due("in 0, quick 0, a latest of 0", Due.orders(z, "say 0 if in 0=1 and quick 0=1;join 0 if in 0=0;pass if latest=0"), 3);
        d.due("none are in", Due.orders(z, "leave 0;leave 1;leave 2;pass"), 4);
        ItByRhyme y = Due.ring(3, 1);
        Due.law(y, "keeps");
        y.force(0);
        d.due("latest of one who stays", Due.orders(y, "say 0;pass if latest=100"), 2);
        d.due("done begins anew", Due.orders(y, "pass if done=0 and latest=0-1"), 1);
    }

    private static void ordersNotAtAll() {
        d.part("13, 15");
        String[] wrongs = {"say 2", "say 0-1", "join 0", "join 4", "leave 4", "leave 0-1", "join 1/0", "say 1000*1000*1000",
            "pass times 20", "say 0 times 4"};
        for (String wrong : wrongs) {
            ItByRhyme x = Due.ring(4, 2, 3);
            x.terms(0, 980);
            x.terms(1, 5);
            x.leave(2);
            x.join(2);
            d.due(wrong, Due.orders(x, "leave 3;join 3;say 1 if 1=2;pass;" + wrong), -3);
            d.due(wrong + ": stopped", x.stopped(), 4);
            d.due(wrong + ": no fault", x.fault(), -1);
            d.due(wrong + ": refused once", x.count(8), 1);
            d.due(wrong + ": none by -2", x.count(7), 0);
            d.dues(wrong + ": as ahead", new long[] {x.count(1), x.count(4), x.count(12), x.count(13)}, 4, 2, 980, 5);
            d.due(wrong + ": undo", x.undo(), 1);
            d.due(wrong + ": undo", x.undo(), 2);
            d.due(wrong + ": undo", x.undo(), -3);
            Due.orders(x, "pass");
            d.due(wrong + ": stopped no more", x.stopped(), -1);
        }
        ItByRhyme x = Due.ring(2, 1);
        for (int i = 0; i < 8; i++) {
            x.leave(1);
            x.join(1);
        }
        d.due("many runs ahead of the one that can't be", Due.orders(x, "pass times 20;pass times 20;say 9"), -3);
        d.due("all sixteen are there again", x.count(4), 16);
        d.due("join", x.undo(), 1);
        d.due("the law's fault leaves it", Due.law(x, "x"), -6);
        d.due("stopped", x.stopped(), 2);
        d.due("unreadable orders", Due.orders(x, "x"), -6);
        d.due("stopped no more", x.stopped(), -1);
    }
}
