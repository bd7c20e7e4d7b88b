import java.util.ArrayDeque;
import java.util.ArrayList;
import java.util.Arrays;
import java.util.HashMap;
import java.util.List;
import java.util.Map;
import java.util.TreeMap;
import java.util.TreeSet;

/**
 * The document once more, in the slowest and plainest words: a second program to hold the first
 * one against. Nothing is kept from call to call but what the document keeps.
 */
final class Plain {
    static final int NONE = -1;

    interface Words {
        long get(String word, int c);
    }

    /** A number (a TEST tells 1, 0); null is BROKEN. */
    interface Term {
        Long tell(Words words);
    }

    record Clause(String verb, Term sum, int times, Term test) {
    }

    static final class Fault extends RuntimeException {
        private static final long serialVersionUID = 1L;
        final int place;

        Fault(int place) {
            this.place = place;
        }
    }

    record Spot(TreeSet<Integer> in, int at) {
        Spot without(int child, int newAt) {
            TreeSet<Integer> rest = new TreeSet<>(in);
            rest.remove(child);
            return new Spot(rest, newAt);
        }
    }

    static final class World {
        List<Integer> quick = new ArrayList<>();
        TreeSet<Integer> in = new TreeSet<>();
        List<Integer> beats = new ArrayList<>();
        List<List<Clause>> laws = new ArrayList<>();
        int force = NONE;
        int[] terms = {0, 0, 1, 0};

        World copy() {
            World w = new World();
            w.quick.addAll(quick);
            w.in.addAll(in);
            w.beats.addAll(beats);
            w.laws.addAll(laws);
            w.force = force;
            w.terms = terms.clone();
            return w;
        }
    }

    record Step(int kind, TreeSet<Integer> in, int at, int round) {
    }

    World w = new World();
    World[] images = new World[2];
    List<Byte> tape = new ArrayList<>();
    ArrayDeque<Step> past = new ArrayDeque<>();
    TreeMap<Integer, Integer> refusals = new TreeMap<>();
    int status = 0;
    int lisps = 0;
    int fault = NONE;
    int stopped = NONE;
    int[] drawnAlone = new int[0];
    TreeSet<Integer> drawnIn = null;

    int refuse(int by) {
        status = by;
        refusals.merge(by, 1, Integer::sum);
        return by;
    }

    int fine(int answer) {
        status = 0;
        return answer;
    }

    boolean isChild(int c) {
        return c >= 0 && c < w.quick.size();
    }

    boolean isRhyme(int r) {
        return r >= 0 && r < w.beats.size();
    }

    int child(int quick) {
        if (quick < 0 || quick > 9) return refuse(-1);
        if (w.quick.size() == 6) return refuse(-5);
        w.in.add(w.quick.size());
        w.quick.add(quick);
        past.clear();
        return fine(w.quick.size() - 1);
    }

    int of(int child, int what) {
        if (!isChild(child)) return NONE;
        return what == 0 ? w.quick.get(child) : what == 1 ? (w.in.contains(child) ? 1 : 0) : NONE;
    }

    int rhyme(int beats) {
        if (beats < 1 || beats > 15) return refuse(-1);
        if (w.beats.size() == 5) return refuse(-5);
        w.beats.add(beats);
        past.clear();
        return fine(w.beats.size() - 1);
    }

    int beats(int rhyme) {
        return isRhyme(rhyme) ? w.beats.get(rhyme) : NONE;
    }

    // ---- laws asked

    List<Clause> lawNow() {
        return w.force == NONE ? List.of() : w.laws.get(w.force);
    }

    Words lawWords(int child, int rhyme, int beat, int many, int round) {
        return (word, c) -> switch (word) {
            case "child" -> child;
            case "quick" -> w.quick.get(child);
            case "rhyme" -> rhyme;
            case "beat" -> beat;
            case "many" -> many;
            case "round" -> round;
            default -> w.terms[3];
        };
    }

    static boolean testSo(Clause c, Words words) {
        if (c.test == null) return true;
        Long t = c.test.tell(words);
        return t != null && t == 1;
    }

    static boolean holds(List<Clause> law, String verb, Words words) {
        return law.stream().anyMatch(c -> c.verb.equals(verb) && testSo(c, words));
    }

    int beatsSaid(List<Clause> law, int rhyme, int child, int many, int round) {
        long said = w.beats.get(rhyme);
        Words words = lawWords(child, rhyme, 0, many, round);
        for (Clause c : law) {
            if (!c.verb.equals("beats") || !testSo(c, words)) continue;
            Long told = c.sum.tell(words);
            if (told != null) said = told;
        }
        return (int) Math.max(1, Math.min(15, said));
    }

    int asks(int rhyme, int child, int b, int what) {
        if (!isRhyme(rhyme) || !isChild(child) || b < 0 || b > 15 || what < 0 || what > 3) return NONE;
        int many = w.in.size();
        if (what == 0) return beatsSaid(lawNow(), rhyme, child, many, w.terms[0]);
        String verb = what == 1 ? "skips" : what == 2 ? "turns" : "keeps";
        return holds(lawNow(), verb, lawWords(child, rhyme, b, many, w.terms[0])) ? 1 : 0;
    }

    int terms(int what, int value) {
        int[] most = {999, 5, 10, 9};
        if (what < 0 || what > 3 || value < 0 || value > most[what]) return refuse(-1);
        int was = w.terms[what];
        w.terms[what] = value;
        past.clear();
        return fine(was);
    }

    int feed(int a, int b, int c, int d, int e) {
        if (tape.size() + 20 > 400) return NONE;
        for (int n : new int[] {a, b, c, d, e}) {
            for (byte x : java.nio.ByteBuffer.allocate(4).putInt(n).array()) tape.add(x);
        }
        return tape.size();
    }

    int end(int n) {
        if (n < 0 || n > tape.size()) return NONE;
        tape = new ArrayList<>(tape.subList(0, n));
        return n;
    }

    int row() {
        if (tape.isEmpty()) return refuse(-6);
        int came = 0;
        int lost = 0;
        for (byte b : tape) {
            if (b >= 0 && b <= 9 && w.quick.size() < 6) {
                w.in.add(w.quick.size());
                w.quick.add((int) b);
                came++;
            } else {
                lost++;
            }
        }
        tape.clear();
        past.clear();
        lisps = lost;
        return fine(came);
    }

    int lisps() {
        return lisps;
    }

    // ---- texts

    record Token(int place, String text) {
    }

    static final class Text {
        final boolean law;
        final List<Token> tokens = new ArrayList<>();
        int next = 0;
        int parts = 0;

        Text(List<Byte> tape, boolean law) {
            this.law = law;
            StringBuilder s = new StringBuilder();
            for (byte b : tape) s.append((char) (b & 255));
            java.util.regex.Matcher m =
                java.util.regex.Pattern.compile("[a-z]+|[0-9]+|[^ ]", java.util.regex.Pattern.DOTALL).matcher(s);
            while (m.find()) tokens.add(new Token(m.start(), m.group()));
            tokens.add(new Token(s.length(), ""));
        }

        String peek() {
            return tokens.get(next).text;
        }

        Fault fault() {
            return new Fault(tokens.get(next).place);
        }

        boolean take(String text) {
            if (!peek().equals(text)) return false;
            next++;
            return true;
        }

        void need(String text) {
            if (!take(text)) throw fault();
        }

        boolean digits() {
            return !peek().isEmpty() && Character.isDigit(peek().charAt(0));
        }

        int number(int least, int most) {
            if (!digits()) throw fault();
            java.math.BigInteger n = new java.math.BigInteger(peek());
            if (n.compareTo(java.math.BigInteger.valueOf(least)) < 0
                || n.compareTo(java.math.BigInteger.valueOf(most)) > 0) throw fault();
            next++;
            return n.intValue();
        }

        List<Clause> read() {
            List<Clause> clauses = new ArrayList<>();
            do {
                if (clauses.size() == 12) throw fault();
                clauses.add(clause());
            } while (take(";"));
            if (next != tokens.size() - 1) throw fault();
            return clauses;
        }

        Clause clause() {
            String verb = peek();
            List<String> verbs = law ? List.of("beats", "skips", "turns", "keeps") : List.of("say", "join", "leave", "pass");
            if (!verbs.contains(verb)) throw fault();
            next++;
            boolean needsSum = law ? verb.equals("beats") : !verb.equals("pass");
            Term sum = needsSum ? sum(0) : null;
            int times = !law && take("times") ? number(1, 20) : 1;
            Term test = take("if") ? test(0) : null;
            return new Clause(verb, sum, times, test);
        }

        Term test(int depth) {
            Term a = both(depth);
            while (take("or")) {
                Term l = a;
                Term r = both(depth);
                a = x -> {
                    Long v = l.tell(x);
                    return v == null || v == 1 ? v : r.tell(x);
                };
            }
            return a;
        }

        Term both(int depth) {
            Term a = plain(depth);
            while (take("and")) {
                Term l = a;
                Term r = plain(depth);
                a = x -> {
                    Long v = l.tell(x);
                    return v == null || v == 0 ? v : r.tell(x);
                };
            }
            return a;
        }

        Term plain(int depth) {
            if (take("not")) {
                Term t = plain(depth);
                return x -> {
                    Long v = t.tell(x);
                    return v == null ? null : Long.valueOf(1 - v);
                };
            }
            if (peek().equals("(")) {
                if (depth == 8) throw fault();
                next++;
                Term t = test(depth + 1);
                need(")");
                return t;
            }
            Term l = sum(depth);
            String op = peek();
            if (!List.of("<", ">", "=").contains(op)) throw fault();
            next++;
            Term r = sum(depth);
            return x -> {
                Long a = l.tell(x);
                Long b = r.tell(x);
                if (a == null || b == null) return null;
                int c = Long.compare(a, b);
                return (op.equals("<") ? c < 0 : op.equals(">") ? c > 0 : c == 0) ? 1L : 0L;
            };
        }

        static Term joined(Term l, Term r, String op) {
            return x -> {
                Long a = l.tell(x);
                Long b = r.tell(x);
                if (a == null || b == null) return null;
                if ("/%".contains(op) && b == 0) return null;
                long v = switch (op) {
                    case "+" -> a + b;
                    case "-" -> a - b;
                    case "*" -> a * b;
                    case "/" -> a / b;
                    default -> a % b;
                };
                return Math.abs(v) > 1000000000L ? null : Long.valueOf(v);
            };
        }

        Term sum(int depth) {
            Term a = term(depth);
            while (List.of("+", "-").contains(peek())) {
                String op = peek();
                next++;
                a = joined(a, term(depth), op);
            }
            return a;
        }

        Term term(int depth) {
            Term a = part(depth);
            while (List.of("*", "/", "%").contains(peek())) {
                String op = peek();
                next++;
                a = joined(a, part(depth), op);
            }
            return a;
        }

        Term part(int depth) {
            if (peek().equals("[")) {
                if (depth == 8) throw fault();
                next++;
                Term t = sum(depth + 1);
                need("]");
                return t;
            }
            if (parts == 50) throw fault();
            if (digits()) {
                long n = number(0, 1000);
                parts++;
                return x -> n;
            }
            String word = peek();
            List<String> words = law ? List.of("child", "quick", "rhyme", "beat", "many", "round", "mood")
                : List.of("round", "done", "latest", "many", "at", "in", "quick");
            if (!words.contains(word)) throw fault();
            next++;
            parts++;
            int c = !law && (word.equals("in") || word.equals("quick")) ? number(0, 5) : 0;
            return x -> x.get(word, c);
        }
    }

    List<Clause> readTape(boolean law) {
        try {
            List<Clause> read = new Text(tape, law).read();
            fault = NONE;
            return read;
        } catch (Fault f) {
            fault = f.place;
            return null;
        } finally {
            tape.clear();
        }
    }

    int law() {
        if (w.laws.size() == 6) {
            tape.clear();
            return refuse(-5);
        }
        List<Clause> read = readTape(true);
        if (read == null) return refuse(-6);
        w.laws.add(read);
        return fine(w.laws.size() - 1);
    }

    int orders() {
        stopped = NONE;
        List<Clause> read = readTape(false);
        if (read == null) return refuse(-6);
        World was = w.copy();
        ArrayDeque<Step> wasPast = new ArrayDeque<>(past);
        int[] doneLatest = {0, NONE};
        Words words = (word, c) -> switch (word) {
            case "round" -> w.terms[0];
            case "done" -> doneLatest[0];
            case "latest" -> doneLatest[1];
            case "many" -> w.in.size();
            case "at" -> w.terms[1];
            case "in" -> isChild(c) ? (w.in.contains(c) ? 1 : 0) : NONE;
            default -> isChild(c) ? w.quick.get(c) : NONE;
        };
        for (int i = 0; i < read.size(); i++) {
            Clause c = read.get(i);
            for (int t = 0; t < c.times; t++) {
                if (!testSo(c, words)) continue;
                Long n = c.sum == null ? Long.valueOf(0) : c.sum.tell(words);
                int answer = n == null ? -3 : doOne(c.verb, n.intValue());
                if (answer < 0) {
                    w = was;
                    past = wasPast;
                    stopped = i;
                    return refuse(-3);
                }
                doneLatest[0]++;
                if (c.verb.equals("say")) doneLatest[1] = answer;
            }
        }
        return fine(doneLatest[0]);
    }

    int fault() {
        return fault;
    }

    int stopped() {
        return stopped;
    }

    int force(int law) {
        if (law < -1 || law >= w.laws.size()) return refuse(-2);
        int was = w.force;
        w.force = law;
        return fine(was);
    }

    // ---- saying

    /** On whom the beats fall, then (as the last) whether that one stays: 1, 0. */
    List<Integer> falling(List<Clause> law, Spot spot, int rhyme, int round, int less) {
        int n = w.quick.size();
        int many = spot.in.size();
        int who = spot.at % n;
        while (!spot.in.contains(who)) who = (who + 1) % n;
        int beats = Math.max(1, beatsSaid(law, rhyme, who, many, round) - less);
        int way = 1;
        List<Integer> fell = new ArrayList<>();
        for (int beat = 1; beat <= beats; beat++) {
            if (beat > 1) who = along(spot, who, way);
            for (int k = 0; k < many; k++) {
                if (!holds(law, "skips", lawWords(who, rhyme, beat, many, round))) break;
                who = along(spot, who, way);
            }
            fell.add(who);
            if (holds(law, "turns", lawWords(who, rhyme, beat, many, round))) way = -way;
        }
        fell.add(holds(law, "keeps", lawWords(who, rhyme, beats, many, round)) ? 1 : 0);
        return fell;
    }

    int along(Spot spot, int who, int way) {
        int n = w.quick.size();
        int next = who;
        do {
            next = Math.floorMod(next + way, n);
        } while (!spot.in.contains(next));
        return next;
    }

    Spot next(List<Clause> law, Spot spot, int rhyme, int round, int less) {
        List<Integer> fell = falling(law, spot, rhyme, round, less);
        int who = fell.get(fell.size() - 2);
        int at = (who + 1) % w.quick.size();
        return fell.get(fell.size() - 1) == 1 ? new Spot(spot.in, at) : spot.without(who, at);
    }

    Spot here() {
        return new Spot(new TreeSet<>(w.in), w.terms[1]);
    }

    void remember(int kind) {
        past.addLast(new Step(kind, new TreeSet<>(w.in), w.terms[1], w.terms[0]));
        if (past.size() > 16) past.removeFirst();
    }

    int doOne(String verb, int n) {
        switch (verb) {
            case "say": {
                if (!isRhyme(n)) return -2;
                if (w.in.size() < 2) return -3;
                List<Integer> fell = falling(lawNow(), here(), n, w.terms[0], 0);
                int who = fell.get(fell.size() - 2);
                boolean stays = fell.get(fell.size() - 1) == 1;
                remember(0);
                if (!stays) w.in.remove(who);
                w.terms[1] = (who + 1) % w.quick.size();
                return stays ? 100 + who : who;
            }
            case "join": {
                if (!isChild(n)) return -2;
                if (w.in.contains(n)) return -3;
                remember(1);
                w.in.add(n);
                return w.in.size();
            }
            case "leave": {
                if (!isChild(n)) return -2;
                if (!w.in.contains(n)) return -3;
                remember(2);
                w.in.remove(n);
                return w.in.size();
            }
            default: {
                if (w.terms[0] == 999) return -3;
                remember(3);
                for (int c = 0; c < w.quick.size(); c++) w.in.add(c);
                w.terms[1] = 0;
                return ++w.terms[0];
            }
        }
    }

    int ended(int answer) {
        return answer < 0 ? refuse(answer) : fine(answer);
    }

    int say(int rhyme) {
        return ended(doOne("say", rhyme));
    }

    int falls(int rhyme, int b) {
        if (!isRhyme(rhyme) || b < 0 || w.in.size() < 2) return NONE;
        if (b == 0) {
            int who = w.terms[1] % w.quick.size();
            while (!w.in.contains(who)) who = (who + 1) % w.quick.size();
            return who;
        }
        List<Integer> fell = falling(lawNow(), here(), rhyme, w.terms[0], 0);
        return b < fell.size() ? fell.get(b - 1) : NONE;
    }

    int join(int child) {
        return ended(doOne("join", child));
    }

    int leave(int child) {
        return ended(doOne("leave", child));
    }

    int pass() {
        return ended(doOne("pass", 0));
    }

    int undo() {
        if (past.isEmpty()) return refuse(-3);
        Step s = past.removeLast();
        w.in = new TreeSet<>(s.in);
        w.terms[1] = s.at;
        w.terms[0] = s.round;
        return fine(s.kind);
    }

    // ---- on paper

    int leftBy(List<Clause> law, Spot from, int rhyme, List<Integer> outs) {
        Spot s = from;
        for (int i = 0; i < 60 && s.in.size() >= 2; i++) {
            Spot t = next(law, s, rhyme, w.terms[0], 0);
            for (int c : s.in) {
                if (!t.in.contains(c)) outs.add(c);
            }
            s = t;
        }
        return s.in.size() == 1 ? s.in.first() : NONE;
    }

    int left(int rhyme, int i) {
        if (!isRhyme(rhyme)) return NONE;
        List<Integer> outs = new ArrayList<>();
        int who = leftBy(lawNow(), here(), rhyme, outs);
        if (i == NONE || who == NONE) return who;
        return i >= 0 && i < outs.size() ? outs.get(i) : NONE;
    }

    int safe(int child, int rhyme) {
        if (!isChild(child) || !isRhyme(rhyme)) return NONE;
        int bits = 0;
        for (int at = 0; at < w.quick.size(); at++) {
            if (leftBy(lawNow(), new Spot(w.in, at), rhyme, new ArrayList<>()) == child) bits += 1 << at;
        }
        return bits;
    }

    int alone(int child, int i) {
        if (!isChild(child)) return NONE;
        // Rows by length, then as numbers go; a spot seen by an earlier row leads nowhere sooner.
        Map<Spot, List<Integer>> rows = new HashMap<>();
        ArrayDeque<Spot> open = new ArrayDeque<>();
        rows.put(here(), List.of());
        open.add(here());
        List<Integer> best = null;
        while (!open.isEmpty()) {
            Spot s = open.removeFirst();
            if (s.in.size() == 1 && s.in.first() == child) {
                best = rows.get(s);
                break;
            }
            for (int r = 0; r < w.beats.size() && s.in.size() >= 2; r++) {
                Spot t = next(lawNow(), s, r, w.terms[0], 0);
                if (rows.containsKey(t)) continue;
                List<Integer> longer = new ArrayList<>(rows.get(s));
                longer.add(r);
                rows.put(t, longer);
                open.add(t);
            }
        }
        if (best == null) return NONE;
        if (i == NONE) return best.size();
        return i >= 0 && i < best.size() ? best.get(i) : NONE;
    }

    /** IT and the RHYME chosen. */
    int[] gameFrom(Spot s, int sayings, Map<String, int[]> known) {
        if (s.in.size() < 2) return new int[] {s.in.size() == 1 ? s.in.first() : NONE, NONE};
        if (sayings == 12 || w.beats.isEmpty()) return new int[] {NONE, NONE};
        String key = s + " " + sayings;
        if (known.containsKey(key)) return known.get(key);
        int chooser = s.at % w.quick.size();
        while (!s.in.contains(chooser)) chooser = (chooser + 1) % w.quick.size();
        int[] answer = {chooser, 0};
        for (int r = 0; r < w.beats.size(); r++) {
            int it = gameFrom(next(lawNow(), s, r, w.terms[0], 0), sayings + 1, known)[0];
            if (it != chooser) {
                answer = new int[] {it, r};
                break;
            }
        }
        known.put(key, answer);
        return answer;
    }

    int game(int what) {
        return what == 0 || what == 1 ? gameFrom(here(), 0, new HashMap<>())[what] : NONE;
    }

    long chances(int child, int n) {
        if (!isChild(child) || w.beats.isEmpty() || n < 0 || n > 20) return NONE;
        Map<Spot, Long> now = new HashMap<>();
        now.put(here(), 1000000000000L);
        for (int i = 0; i < n; i++) {
            Map<Spot, Long> then = new HashMap<>();
            for (Map.Entry<Spot, Long> e : now.entrySet()) {
                if (e.getKey().in.size() < 2) {
                    then.merge(e.getKey(), e.getValue(), Long::sum);
                    continue;
                }
                for (int r = 0; r < w.beats.size(); r++) {
                    then.merge(next(lawNow(), e.getKey(), r, w.terms[0], 0), e.getValue() / w.beats.size(), Long::sum);
                }
            }
            now = then;
        }
        long sum = 0;
        for (Map.Entry<Spot, Long> e : now.entrySet()) {
            if (e.getKey().in.contains(child)) sum += e.getValue();
        }
        return sum;
    }

    void rowsFrom(Spot s, int k, List<Integer> row, List<List<Integer>> found) {
        if (row.size() == k) {
            if (s.equals(here())) found.add(new ArrayList<>(row));
            return;
        }
        if (s.in.size() < 2) return;
        for (int r = 0; r < w.beats.size(); r++) {
            row.add(r);
            rowsFrom(next(lawNow(), s, r, w.terms[0], 0), k, row, found);
            row.remove(row.size() - 1);
        }
    }

    int said(int k, int i, int place) {
        if (k < 0 || k > 4) return NONE;
        TreeSet<Integer> all = new TreeSet<>();
        for (int c = 0; c < w.quick.size(); c++) all.add(c);
        List<List<Integer>> found = new ArrayList<>();
        rowsFrom(new Spot(all, 0), k, new ArrayList<>(), found);
        if (i == NONE) return found.size();
        return i >= 0 && i < found.size() && place >= 0 && place < k ? found.get(i).get(place) : NONE;
    }

    int compare(int law, int rhyme) {
        if (law < -1 || law >= w.laws.size() || !isRhyme(rhyme)) return NONE;
        return leftBy(law == NONE ? List.of() : w.laws.get(law), here(), rhyme, new ArrayList<>());
    }

    // ---- quarters and images

    int quarters(int seed, int n) {
        if (seed < 0 || seed > 1000000 || n < 1 || n > 60) return refuse(-1);
        if (w.beats.isEmpty() || w.quick.isEmpty()) return refuse(-3);
        long s = seed;
        int round = w.terms[0];
        int passed = 0;
        Spot spot = here();
        drawnAlone = new int[w.quick.size()];
        for (int i = 0; i < n; i++) {
            if (spot.in.size() < 2) {
                if (round == 999) break;
                round++;
                passed++;
                TreeSet<Integer> all = new TreeSet<>();
                for (int c = 0; c < w.quick.size(); c++) all.add(c);
                spot = new Spot(all, 0);
                if (all.size() < 2) break;
            }
            s = (s * 1103 + 12345) % 1000003;
            int rhyme = (int) (s % w.beats.size());
            s = (s * 1103 + 12345) % 1000003;
            spot = next(lawNow(), spot, rhyme, round, s % 10 < w.terms[2] ? 1 : 0);
            if (spot.in.size() == 1) drawnAlone[spot.in.first()]++;
        }
        drawnIn = spot.in;
        return fine(passed);
    }

    int drawn(int child, int what) {
        if (child < 0 || child >= drawnAlone.length) return NONE;
        return what == 0 ? drawnAlone[child] : what == 1 ? (drawnIn.contains(child) ? 1 : 0) : NONE;
    }

    int image(int k) {
        if (k != 0 && k != 1) return refuse(-1);
        images[k] = w.copy();
        return fine(0);
    }

    int back(int k) {
        if (k != 0 && k != 1) return refuse(-1);
        if (images[k] == null) return refuse(-2);
        w = images[k].copy();
        past.clear();
        return fine(0);
    }

    int count(int what) {
        if (what < 0 || what > 15) return NONE;
        if (what >= 12) return w.terms[what - 12];
        List<Integer> by = Arrays.asList(-1, -2, -3, -5, -6);
        if (what >= 6 && what <= 10) return refusals.getOrDefault(by.get(what - 6), 0);
        return switch (what) {
            case 0 -> w.quick.size();
            case 1 -> w.in.size();
            case 2 -> w.beats.size();
            case 3 -> w.laws.size();
            case 4 -> past.size();
            case 5 -> tape.size();
            default -> w.force;
        };
    }

    int status() {
        return status;
    }
}
