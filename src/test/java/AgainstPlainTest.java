import java.util.ArrayList;
import java.util.List;

/** Long runs of calls, drawn by a fixed rule, answered by ItByRhyme and by Plain alike. */
public final class AgainstPlainTest {
    private static final int RUNS = Integer.getInteger("runs", 1500);
    private static final int CALLS = 512;

    private long seed;
    private ItByRhyme x;
    private Plain p;
    private final List<String> calls = new ArrayList<>();
    private int wrong = 0;

    public static void main(String[] args) {
        int wrong = 0;
        for (int run = 0; run < RUNS && wrong < 3; run++) {
            wrong += new AgainstPlainTest().run(run);
        }
        System.out.println(wrong == 0 ? "both programs answer alike" : "the programs differ");
        if (wrong != 0) System.exit(1);
    }

    private int below(int n) {
        seed = seed * 6364136223846793005L + 1442695040888963407L;
        return (int) ((seed >>> 33) % n);
    }

    private int run(int number) {
        seed = number * 7919L + 12345;
        for (int i = 0; i < 5; i++) below(10);
        x = new ItByRhyme();
        p = new Plain();
        boolean early = below(4) != 0;
        if (early) {
            for (int i = below(5) + 2; i > 0; i--) one(0);
            for (int i = below(5) + 1; i > 0; i--) one(1);
        }
        for (int i = calls.size(); i < CALLS && wrong == 0; i = calls.size()) one(below(47));
        return wrong;
    }

    private void due(String call, long got, long want) {
        calls.add(call + " -> " + got);
        if (got != want && wrong == 0) {
            wrong++;
            for (String c : calls) System.out.println("  " + c);
            System.out.println("the last one: due is " + want);
        }
    }

    private int mostly(int from, int to) {
        return below(12) == 0 ? new int[] {from - 1, to + 1, Integer.MIN_VALUE, Integer.MAX_VALUE}[below(4)]
            : from + below(to - from + 1);
    }

    private void text(String s) {
        StringBuilder padded = new StringBuilder(s);
        while (padded.length() % 20 != 0) padded.append((char) 7);
        for (int i = 0; i < padded.length(); i += 20) {
            int[] n = new int[5];
            for (int k = 0; k < 20; k++) n[k / 4] = n[k / 4] << 8 | padded.charAt(i + k) & 255;
            due("feed " + padded.substring(i, i + 20), x.feed(n[0], n[1], n[2], n[3], n[4]),
                p.feed(n[0], n[1], n[2], n[3], n[4]));
        }
        due("end", x.end(s.length()), p.end(s.length()));
    }

    private void one(int kind) {
        int a = mostly(0, 5);
        int r = mostly(0, Math.max(0, p.w.beats.size() - 1));
        int i = mostly(-1, 4);
        switch (kind) {
            case 0 -> { int q = mostly(0, 9); due("child " + q, x.child(q), p.child(q)); }
            case 1 -> { int b = mostly(1, 15); due("rhyme " + b, x.rhyme(b), p.rhyme(b)); }
            case 2 -> { int k = mostly(0, 1); due("of", x.of(a, k), p.of(a, k)); }
            case 3 -> due("beats", x.beats(r), p.beats(r));
            case 4, 5, 6 -> { int b = mostly(0, 15), k = mostly(0, 3); due("asks " + r + " " + a + " " + b + " " + k, x.asks(r, a, b, k), p.asks(r, a, b, k)); }
            case 7 -> { int k = mostly(0, 3), v = mostly(0, k == 0 ? below(4) == 0 ? 999 : 5 : k == 1 ? 5 : k == 2 ? 10 : 9);
                due("terms " + k + " " + v, x.terms(k, v), p.terms(k, v)); }
            case 8 -> { if (below(8) == 0) { text(below(3) == 0 ? "" : drawnRow()); due("row", x.row(), p.row()); }
                due("lisps", x.lisps(), p.lisps()); }
            case 9, 10 -> { text(mutated(drawnText(true))); due("law", x.law(), p.law()); due("fault", x.fault(), p.fault()); }
            case 11, 12, 13 -> { text(mutated(drawnText(false))); due("orders", x.orders(), p.orders());
                due("fault", x.fault(), p.fault()); due("stopped", x.stopped(), p.stopped()); }
            case 14, 15 -> { int l = mostly(-1, Math.max(0, p.w.laws.size() - 1)); due("force " + l, x.force(l), p.force(l)); }
            case 16, 17, 18 -> due("say " + r, x.say(r), p.say(r));
            case 19 -> { int b = mostly(0, 15); due("falls " + r + " " + b, x.falls(r, b), p.falls(r, b)); }
            case 20 -> { for (int b = 0; b < 5; b++) due("falls " + r + " " + b, x.falls(r, b), p.falls(r, b)); }
            case 21, 22 -> due("join " + a, x.join(a), p.join(a));
            case 23 -> due("leave " + a, x.leave(a), p.leave(a));
            case 24, 25 -> due("pass", x.pass(), p.pass());
            case 26, 27 -> due("undo", x.undo(), p.undo());
            case 28, 29 -> due("left " + r + " " + i, x.left(r, i), p.left(r, i));
            case 30, 31 -> due("safe " + a + " " + r, x.safe(a, r), p.safe(a, r));
            case 32, 33 -> due("alone " + a + " " + i, x.alone(a, i), p.alone(a, i));
            case 34, 35 -> { int k = mostly(0, 1); due("game " + k, x.game(k), p.game(k)); }
            case 36 -> { int n = mostly(0, 20); due("chances " + a + " " + n, x.chances(a, n), p.chances(a, n)); }
            case 37, 38 -> { int k = mostly(0, 4), pl = mostly(0, 3); due("said " + k + " " + i + " " + pl, x.said(k, i, pl), p.said(k, i, pl)); }
            case 39, 40 -> { int l = mostly(-1, Math.max(0, p.w.laws.size() - 1)); due("compare " + l + " " + r, x.compare(l, r), p.compare(l, r)); }
            case 41 -> { int s = mostly(0, 1000000), n = mostly(1, 60); due("quarters " + s + " " + n, x.quarters(s, n), p.quarters(s, n)); }
            case 42 -> { int k = mostly(0, 1); due("drawn " + a + " " + k, x.drawn(a, k), p.drawn(a, k)); }
            case 43 -> { int k = mostly(0, 1); if (below(3) == 0) due("image " + k, x.image(k), p.image(k)); }
            case 44 -> { int k = mostly(0, 1); if (below(5) == 0) due("back " + k, x.back(k), p.back(k)); }
            case 45 -> otherRing();
            default -> { int k = mostly(0, 15); due("count " + k, x.count(k), p.count(k)); due("status", x.status(), p.status()); }
        }
    }

    /** The ring goes back, and numbers that it gave up are given anew to others. */
    private void otherRing() {
        if (below(6) != 0) return;
        int k = below(2);
        due("image " + k, x.image(k), p.image(k));
        for (int turn = 0; turn < 2; turn++) {
            one(0);
            one(1);
            one(9);
            one(14);
            for (int j = below(6); j > 0; j--) one(28 + below(15));
            due("back " + k, x.back(k), p.back(k));
            one(42);
        }
    }

    private String drawnRow() {
        StringBuilder s = new StringBuilder();
        for (int i = below(6) + 1; i > 0; i--) s.append((char) (below(4) == 0 ? below(256) : below(10)));
        return s.toString();
    }

    private String drawnText(boolean law) {
        StringBuilder s = new StringBuilder();
        int clauses = below(8) == 0 ? below(14) + 1 : below(4) + 1;
        for (int c = 0; c < clauses; c++) {
            if (c > 0) s.append(';');
            if (law) {
                int verb = below(4);
                s.append(new String[] {"beats ", "skips", "turns", "keeps"}[verb]);
                if (verb == 0) sum(s, law, 0);
            } else {
                int verb = below(4);
                s.append(new String[] {"say ", "join ", "leave ", "pass"}[verb]);
                if (verb != 3) {
                    if (below(3) == 0) sum(s, law, 0);
                    else s.append(below(verb == 0 ? Math.max(1, p.w.beats.size()) : Math.max(1, p.w.quick.size())));
                }
                if (below(4) == 0) s.append(" times ").append(mostly(1, below(3) == 0 ? 20 : 3) & 0xffff);
                if (verb == 1 && below(2) == 0) s.append(" if in ").append(below(6)).append(" = 0");
            }
            if (below(3) != 0 && !s.toString().endsWith("= 0")) {
                s.append(" if ");
                test(s, law, 0);
            }
        }
        return s.toString();
    }

    private void test(StringBuilder s, boolean law, int depth) {
        int n = below(4) == 0 ? 2 + below(2) : 1;
        for (int i = 0; i < n; i++) {
            if (i > 0) s.append(below(2) == 0 ? " and " : " or ");
            while (below(6) == 0) s.append("not ");
            if (below(6) == 0 && depth < 10) {
                s.append("(");
                test(s, law, depth + 1);
                s.append(")");
            } else {
                sum(s, law, depth);
                s.append("<>=".charAt(below(3)));
                sum(s, law, depth);
            }
        }
    }

    private void sum(StringBuilder s, boolean law, int depth) {
        int n = below(3) == 0 ? 2 + below(2) : 1;
        for (int i = 0; i < n; i++) {
            if (i > 0) s.append("+-*/%".charAt(below(5)));
            if (below(8) == 0 && depth < 10) {
                s.append("[");
                sum(s, law, depth + 1);
                s.append("]");
            } else if (below(2) == 0) {
                s.append(below(10) == 0 ? below(1003) : below(6));
            } else if (law) {
                s.append(new String[] {"child", "quick", "rhyme", "beat", "many", "round", "mood"}[below(7)]);
            } else {
                int word = below(7);
                s.append(new String[] {"round", "done", "latest", "many", "at", "in ", "quick "}[word]);
                if (word > 4) s.append(below(20) == 0 ? 6 : below(6));
            }
        }
    }

    private String mutated(String text) {
        StringBuilder s = new StringBuilder(text);
        if (below(5) == 0) {
            String[] bits = {" ", "not ", "(", ")", "[", "]", ";", "if ", "times 3", "1001", "0007", "9", "x", "A", "\0",
                String.valueOf((char) 233), "or", " and ", "*1000*1000*1000", "+[[[[[[[[[1", "/0", "%0"};
            for (int k = below(2) + 1; k > 0; k--) s.insert(below(s.length() + 1), bits[below(bits.length)]);
            if (below(3) == 0 && s.length() > 3) s.setLength(below(s.length()));
        }
        if (s.length() > 400) s.setLength(400);
        return s.toString();
    }
}
