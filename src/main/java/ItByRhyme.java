import java.util.Arrays;

/**
 * Counting out in earnest: children in a ring, rhymes, laws and orders in two small languages,
 * sayings and their undoing, and what can be told of all that on paper.
 */
public final class ItByRhyme {
    public static final int NONE = -1;

    private static final int WRONG_NUMBER = -1;
    private static final int UNKNOWN = -2;
    private static final int NOT_NOW = -3;
    private static final int NO_ROOM = -5;
    private static final int UNREADABLE = -6;

    private static final int CHILDREN = 6;
    private static final int RHYMES = 5;
    private static final int LAWS = 6;
    private static final int IMAGES = 2;
    private static final int QUICKEST = 9;
    private static final int LONGEST = 15;
    private static final int LAST_ROUND = 999;

    private static final int ROUND = 0;
    private static final int AT = 1;
    private static final int SLIP = 2;
    private static final int MOOD = 3;
    private static final int TERMS = 4;
    private static final int[] HIGHEST_TERMS = {999, 5, 10, 9};

    // What a CLAUSE of a LAW does; asks() numbers its questions alike.
    private static final int BEATS = 0;
    private static final int SKIPS = 1;
    private static final int TURNS = 2;
    private static final int KEEPS = 3;

    // What a CLAUSE of ORDERS does; undo() numbers its answers alike.
    private static final int SAYS = 0;
    private static final int JOINS = 1;
    private static final int LEAVES = 2;
    private static final int PASSES = 3;

    private static final int STAYS = 100;
    // Far from every number that a SUM, a TEST can be: those end at 1,000,000,000 either way.
    private static final int BROKEN = -2000000000;

    // Who is IN, as bits, and AT make one number: (IN * PLACES) + AT.
    private static final int PLACES = 6;
    private static final int STATES = 64 * PLACES;

    private final Ring ring = new Ring();
    private final Ring[] images = new Ring[IMAGES];
    private final Reader reader = new Reader();
    private final Past past = new Past();
    private final Past pastAhead = new Past();
    private final Voice voice = new Voice(ring);
    private final Paper paper = new Paper(ring, voice);
    private final Draws draws = new Draws(ring, voice);
    private final int[] refusals = new int[5];
    private final int[] facts = new int[17];
    private final int[] stack = new int[Script.STACK];
    private int latestStatus = 0;
    private int latestFault = NONE;
    private int latestStop = NONE;
    private int latestLisps = 0;

    public ItByRhyme() {
    }

    public int child(int quick) {
        if (quick < 0 || quick > QUICKEST) {
            return refused(WRONG_NUMBER);
        }
        if (ring.children >= CHILDREN) {
            return refused(NO_ROOM);
        }
        ring.welcome(quick);
        ringChanged();
        return settled(ring.children - 1);
    }

    public int of(int child, int what) {
        if (ring.lacksChild(child)) {
            return NONE;
        }
        switch (what) {
            case 0:
                return ring.quick[child];
            case 1:
                return ring.in >> child & 1;
            default:
                return NONE;
        }
    }

    public int rhyme(int beats) {
        if (beats < 1 || beats > LONGEST) {
            return refused(WRONG_NUMBER);
        }
        if (ring.rhymes >= RHYMES) {
            return refused(NO_ROOM);
        }
        ring.beats[ring.rhymes] = beats;
        ring.rhymes++;
        ringChanged();
        return settled(ring.rhymes - 1);
    }

    public int beats(int rhyme) {
        return ring.lacksRhyme(rhyme) ? NONE : ring.beats[rhyme];
    }

    public int asks(int rhyme, int child, int b, int what) {
        if (ring.lacksRhyme(rhyme) || ring.lacksChild(child) || b < 0 || b > LONGEST) {
            return NONE;
        }
        int many = Integer.bitCount(ring.in);
        tuneVoice();
        switch (what) {
            case BEATS:
                return voice.lengthOf(rhyme, child, many);
            case SKIPS:
            case TURNS:
            case KEEPS:
                return voice.isSo(what, rhyme, child, b, many) ? 1 : 0;
            default:
                return NONE;
        }
    }

    public int terms(int what, int value) {
        if (what < 0 || what >= TERMS || value < 0 || value > HIGHEST_TERMS[what]) {
            return refused(WRONG_NUMBER);
        }
        int was = ring.terms[what];
        ring.terms[what] = value;
        past.forget();
        return settled(was);
    }

    public int feed(int a, int b, int c, int d, int e) {
        if (!reader.hasRoomFor(20)) {
            return NONE;
        }
        reader.append(a);
        reader.append(b);
        reader.append(c);
        reader.append(d);
        reader.append(e);
        return reader.length;
    }

    public int end(int n) {
        if (n < 0 || n > reader.length) {
            return NONE;
        }
        reader.length = n;
        return n;
    }

    public int row() {
        int length = reader.length;
        if (length == 0) {
            return refused(UNREADABLE);
        }
        int came = 0;
        for (int i = 0; i < length; i++) {
            int quick = reader.tape[i] & 255;
            if (quick <= QUICKEST && ring.children < CHILDREN) {
                ring.welcome(quick);
                came++;
            }
        }
        reader.length = 0;
        latestLisps = length - came;
        ringChanged();
        return settled(came);
    }

    public int lisps() {
        return latestLisps;
    }

    public int law() {
        if (ring.laws >= LAWS) {
            reader.length = 0;
            return refused(NO_ROOM);
        }
        latestFault = reader.readAll(true);
        if (latestFault != NONE) {
            return refused(UNREADABLE);
        }
        ring.law[ring.laws] = reader.draft.trimmed();
        ring.laws++;
        return settled(ring.laws - 1);
    }

    public int orders() {
        latestStop = NONE;
        latestFault = reader.readAll(false);
        if (latestFault != NONE) {
            return refused(UNREADABLE);
        }
        return answered(runWhollyOrNot(reader.draft));
    }

    public int fault() {
        return latestFault;
    }

    public int stopped() {
        return latestStop;
    }

    public int force(int law) {
        if (law != NONE && ring.lacksLaw(law)) {
            return refused(UNKNOWN);
        }
        int was = ring.force;
        ring.force = law;
        return settled(was);
    }

    public int say(int rhyme) {
        return answered(performSaying(rhyme));
    }

    public int falls(int rhyme, int b) {
        if (ring.lacksRhyme(rhyme) || b < 0 || b > LONGEST || Integer.bitCount(ring.in) < 2) {
            return NONE;
        }
        if (b == 0) {
            return voice.firstIn(ring.in, ring.place());
        }
        tuneVoice();
        voice.speak(ring.in, ring.place(), rhyme, 0);
        return b > voice.spoken ? NONE : voice.fallen[b];
    }

    public int join(int child) {
        return answered(performMove(JOINS, child));
    }

    public int leave(int child) {
        return answered(performMove(LEAVES, child));
    }

    public int pass() {
        return answered(performRound());
    }

    public int undo() {
        int kind = past.takeBack(ring);
        return kind == NONE ? refused(NOT_NOW) : settled(kind);
    }

    public int left(int rhyme, int i) {
        if (ring.lacksRhyme(rhyme)) {
            return NONE;
        }
        tuneVoice();
        int who = paper.lastBy(ring.state(), rhyme);
        // Without one who is LEFT there is no i-th OUT either.
        if (i == NONE || who == NONE) {
            return who;
        }
        return i < 0 || i >= paper.gone ? NONE : paper.wentOut[i];
    }

    public int safe(int child, int rhyme) {
        if (ring.lacksChild(child) || ring.lacksRhyme(rhyme)) {
            return NONE;
        }
        tuneVoice();
        int places = 0;
        for (int at = 0; at < ring.children; at++) {
            if (paper.lastBy(ring.in * PLACES + at, rhyme) == child) {
                places |= 1 << at;
            }
        }
        return places;
    }

    public int alone(int child, int i) {
        if (ring.lacksChild(child)) {
            return NONE;
        }
        tuneVoice();
        int goal = paper.reach(ring.state(), 1 << child);
        if (goal == NONE) {
            return NONE;
        }
        int sayings = paper.sayingsTo(goal);
        if (i == NONE) {
            return sayings;
        }
        return i < 0 || i >= sayings ? NONE : paper.rhymeAhead(goal, sayings - 1 - i);
    }

    public int game(int what) {
        if (what != 0 && what != 1) {
            return NONE;
        }
        tuneVoice();
        int it = paper.play(ring.state());
        return what == 0 ? it : paper.chosen;
    }

    public long chances(int child, int n) {
        if (ring.lacksChild(child) || ring.rhymes == 0 || n < 0 || n > 20) {
            return NONE;
        }
        tuneVoice();
        return paper.partsIn(ring.state(), child, n);
    }

    public int said(int k, int i, int place) {
        if (k < 0 || k > 4 || i < NONE) {
            return NONE;
        }
        tuneVoice();
        int found = paper.rowsSaid(k, i);
        if (i == NONE || found == NONE) {
            return found;
        }
        return place < 0 || place >= k ? NONE : paper.digit(found, k - 1 - place);
    }

    public int compare(int law, int rhyme) {
        if (law != NONE && ring.lacksLaw(law) || ring.lacksRhyme(rhyme)) {
            return NONE;
        }
        voice.tune(law == NONE ? null : ring.law[law], ring.terms[ROUND]);
        return paper.lastBy(ring.state(), rhyme);
    }

    public int quarters(int seed, int n) {
        if (seed < 0 || seed > 1000000 || n < 1 || n > 60) {
            return refused(WRONG_NUMBER);
        }
        if (ring.rhymes == 0 || ring.children == 0) {
            return refused(NOT_NOW);
        }
        return settled(draws.run(seed, n));
    }

    public int drawn(int child, int what) {
        if (child < 0 || child >= draws.children) {
            return NONE;
        }
        switch (what) {
            case 0:
                return draws.timesAlone[child];
            case 1:
                return draws.in >> child & 1;
            default:
                return NONE;
        }
    }

    public int image(int k) {
        if (k < 0 || k >= IMAGES) {
            return refused(WRONG_NUMBER);
        }
        if (images[k] == null) {
            images[k] = new Ring();
        }
        images[k].becomes(ring);
        return settled(0);
    }

    public int back(int k) {
        if (k < 0 || k >= IMAGES) {
            return refused(WRONG_NUMBER);
        }
        if (images[k] == null) {
            return refused(UNKNOWN);
        }
        ring.becomes(images[k]);
        ringChanged();
        return settled(0);
    }

    public int count(int what) {
        if (what >= 6 && what <= 10) {
            return refusals[what - 6];
        }
        if (what >= 12 && what <= 15) {
            return ring.terms[what - 12];
        }
        switch (what) {
            case 0:
                return ring.children;
            case 1:
                return Integer.bitCount(ring.in);
            case 2:
                return ring.rhymes;
            case 3:
                return ring.laws;
            case 4:
                return past.kept;
            case 5:
                return reader.length;
            case 11:
                return ring.force;
            default:
                return NONE;
        }
    }

    public int status() {
        return latestStatus;
    }

    private int settled(int answer) {
        latestStatus = 0;
        return answer;
    }

    private int refused(int by) {
        // There is no -4, so what is below it moves up by one.
        int place = by > -4 ? -by - 1 : -by - 2;
        if (place >= 0 && place < refusals.length) {
            refusals[place]++;
        }
        latestStatus = by;
        return by;
    }

    /** For answers that are never negative but by a refusal. */
    private int answered(int answer) {
        return answer < 0 ? refused(answer) : settled(answer);
    }

    private void ringChanged() {
        past.forget();
        voice.forget();
    }

    private void tuneVoice() {
        voice.tune(ring.lawInForce(), ring.terms[ROUND]);
    }

    /** A saying's answer, or what it is refused by; so do the two behind it. */
    private int performSaying(int rhyme) {
        if (ring.lacksRhyme(rhyme)) {
            return UNKNOWN;
        }
        if (Integer.bitCount(ring.in) < 2) {
            return NOT_NOW;
        }
        tuneVoice();
        int told = voice.speak(ring.in, ring.place(), rhyme, 0);
        past.keep(SAYS, ring);
        ring.settle(voice.stateBehind(ring.in, told));
        return told;
    }

    private int performMove(int kind, int child) {
        if (ring.lacksChild(child)) {
            return UNKNOWN;
        }
        boolean isIn = (ring.in >> child & 1) == 1;
        if (isIn == (kind == JOINS)) {
            return NOT_NOW;
        }
        past.keep(kind, ring);
        ring.in ^= 1 << child;
        return Integer.bitCount(ring.in);
    }

    private int performRound() {
        if (ring.terms[ROUND] >= LAST_ROUND) {
            return NOT_NOW;
        }
        past.keep(PASSES, ring);
        ring.settle(ring.everyone() * PLACES);
        ring.terms[ROUND]++;
        return ring.terms[ROUND];
    }

    /** How many were run; NOT_NOW, and all as it was, if one can't be. */
    private int runWhollyOrNot(Script script) {
        int in = ring.in;
        int at = ring.terms[AT];
        int round = ring.terms[ROUND];
        pastAhead.becomes(past);
        int done = 0;
        int latest = NONE;
        for (int c = 0; c < script.clauses; c++) {
            for (int time = 0; time < script.times[c]; time++) {
                gatherFacts(done, latest);
                int test = script.tests[c];
                if (test != 0 && script.worth(test, facts, stack) != 1) {
                    continue;
                }
                int answer = runClause(script, c);
                if (answer < 0) {
                    ring.settle(in * PLACES + at);
                    ring.terms[ROUND] = round;
                    past.becomes(pastAhead);
                    latestStop = c;
                    return NOT_NOW;
                }
                done++;
                if (script.kinds[c] == SAYS) {
                    latest = answer;
                }
            }
        }
        return done;
    }

    private int runClause(Script script, int c) {
        int number = 0;
        if (script.sums[c] != 0) {
            number = script.worth(script.sums[c], facts, stack);
            if (number == BROKEN) {
                return NOT_NOW;
            }
        }
        switch (script.kinds[c]) {
            case SAYS:
                return performSaying(number);
            case JOINS:
            case LEAVES:
                return performMove(script.kinds[c], number);
            default:
                return performRound();
        }
    }

    /** The words of ORDERS, in the order of Reader.ORDER_WORDS. */
    private void gatherFacts(int done, int latest) {
        facts[0] = ring.terms[ROUND];
        facts[1] = done;
        facts[2] = latest;
        facts[3] = Integer.bitCount(ring.in);
        facts[4] = ring.terms[AT];
        for (int child = 0; child < CHILDREN; child++) {
            boolean known = child < ring.children;
            facts[5 + child] = known ? ring.in >> child & 1 : NONE;
            facts[5 + CHILDREN + child] = known ? ring.quick[child] : NONE;
        }
    }

    /** All that an IMAGE keeps. */
    private static final class Ring {
        private final int[] quick = new int[CHILDREN];
        private final int[] beats = new int[RHYMES];
        private final Script[] law = new Script[LAWS];
        private final int[] terms = new int[TERMS];
        private int children = 0;
        private int in = 0;
        private int rhymes = 0;
        private int laws = 0;
        private int force = NONE;

        private Ring() {
            terms[SLIP] = 1;
        }

        private void becomes(Ring other) {
            System.arraycopy(other.quick, 0, quick, 0, CHILDREN);
            System.arraycopy(other.beats, 0, beats, 0, RHYMES);
            for (int i = 0; i < LAWS; i++) {
                law[i] = other.law[i];
            }
            System.arraycopy(other.terms, 0, terms, 0, TERMS);
            children = other.children;
            in = other.in;
            rhymes = other.rhymes;
            laws = other.laws;
            force = other.force;
        }

        private void welcome(int newQuick) {
            if (children < CHILDREN) {
                quick[children] = newQuick;
                in |= 1 << children;
                children++;
            }
        }

        private boolean lacksChild(int number) {
            return number < 0 || number >= children;
        }

        private boolean lacksRhyme(int number) {
            return number < 0 || number >= rhymes;
        }

        private boolean lacksLaw(int number) {
            return number < 0 || number >= laws;
        }

        /** The LAW in FORCE; null if none is. */
        private Script lawInForce() {
            return force < 0 || force >= laws ? null : law[force];
        }

        private int everyone() {
            return (1 << children) - 1;
        }

        /** AT as a place that the ring has: AT may be set beyond the last CHILD. */
        private int place() {
            return children == 0 ? 0 : terms[AT] % children;
        }

        private int state() {
            return in * PLACES + place();
        }

        private void settle(int state) {
            in = state / PLACES;
            terms[AT] = state % PLACES;
        }
    }

    /** What can be undone: each saying, joining, leaving, round with what was ahead of it. */
    private static final class Past {
        private static final int DEPTH = 16;

        private final int[] entries = new int[DEPTH];
        private int kept = 0;

        private void forget() {
            kept = 0;
        }

        private void becomes(Past other) {
            System.arraycopy(other.entries, 0, entries, 0, DEPTH);
            kept = other.kept;
        }

        private void keep(int kind, Ring ring) {
            if (kept >= DEPTH) {
                System.arraycopy(entries, 1, entries, 0, DEPTH - 1);
                kept = DEPTH - 1;
            }
            int state = ring.in * PLACES + ring.terms[AT];
            entries[kept] = (ring.terms[ROUND] * STATES + state) * 4 + kind;
            kept++;
        }

        /** The kind of the latest entry, when the ring is again as ahead of it; NONE without one. */
        private int takeBack(Ring ring) {
            if (kept == 0) {
                return NONE;
            }
            kept--;
            int entry = entries[kept];
            ring.settle(entry / 4 % STATES);
            ring.terms[ROUND] = entry / 4 / STATES;
            return entry % 4;
        }
    }

    /** A TEXT that was read: its CLAUSES, their SUMS and TESTS as codes behind one another. */
    private static final class Script {
        private static final int CLAUSES = 12;
        private static final int STACK = 40;

        // Codes; the signs of the languages stand for themselves.
        private static final int STOP = 0;
        private static final int NUMBER = 1;
        private static final int WORD = 2;
        private static final int AND = 3;
        private static final int OR = 4;
        private static final int NOT = 5;

        private static final long MOST = 1000000000L;

        private final int[] kinds = new int[CLAUSES];
        private final int[] times = new int[CLAUSES];
        // Where the codes begin; 0, where no code ever begins, if there are none.
        private final int[] sums = new int[CLAUSES];
        private final int[] tests = new int[CLAUSES];
        private final int[] code;
        private int clauses = 0;
        private int size = 1;
        private int kindsUsed = 0;

        private Script(int room) {
            code = new int[Math.max(1, room)];
        }

        private void clear() {
            clauses = 0;
            size = 1;
            kindsUsed = 0;
        }

        private Script trimmed() {
            Script copy = new Script(size);
            System.arraycopy(kinds, 0, copy.kinds, 0, CLAUSES);
            System.arraycopy(times, 0, copy.times, 0, CLAUSES);
            System.arraycopy(sums, 0, copy.sums, 0, CLAUSES);
            System.arraycopy(tests, 0, copy.tests, 0, CLAUSES);
            System.arraycopy(code, 0, copy.code, 0, Math.min(size, copy.code.length));
            copy.clauses = clauses;
            copy.size = size;
            copy.kindsUsed = kindsUsed;
            return copy;
        }

        private void put(int word) {
            if (size < code.length) {
                code[size] = word;
                size++;
            }
        }

        /** A jump whose aim is put in later, by land(). */
        private int putJump(int op) {
            put(op);
            put(0);
            return size - 1;
        }

        private void land(int jump) {
            if (jump > 0 && jump < code.length) {
                code[jump] = size;
            }
        }

        private boolean has(int kind) {
            return (kindsUsed >> kind & 1) == 1;
        }

        /** What the codes from a place on tell: a number, 1 or 0 for a TEST, or BROKEN. */
        private int worth(int from, int[] facts, int[] stack) {
            int at = from;
            int top = 0;
            // Jumps lead forward alone, so there are never more steps than codes.
            for (int steps = 0; steps < size && at > 0 && at < size && top < stack.length; steps++) {
                int op = code[at];
                int given = at + 1 < size ? code[at + 1] : 0;
                if (op == NUMBER || op == WORD && given >= 0 && given < facts.length) {
                    stack[top] = op == NUMBER ? given : facts[given];
                    top++;
                    at += 2;
                    continue;
                }
                if (top < 1) {
                    return BROKEN;
                }
                if (op == AND || op == OR) {
                    boolean decided = (stack[top - 1] != 0) == (op == OR);
                    top = decided ? top : top - 1;
                    at = decided ? given : at + 2;
                } else if (op == NOT) {
                    stack[top - 1] = 1 - stack[top - 1];
                    at++;
                } else if (op == STOP) {
                    return stack[top - 1];
                } else {
                    int value = top < 2 ? BROKEN : joined(op, stack[top - 2], stack[top - 1]);
                    if (value == BROKEN) {
                        return BROKEN;
                    }
                    top--;
                    stack[top - 1] = value;
                    at++;
                }
            }
            return BROKEN;
        }

        private static int joined(int sign, long a, long b) {
            long value;
            switch (sign) {
                case '<':
                    return a < b ? 1 : 0;
                case '>':
                    return a > b ? 1 : 0;
                case '=':
                    return a == b ? 1 : 0;
                case '+':
                    value = a + b;
                    break;
                case '-':
                    value = a - b;
                    break;
                case '*':
                    value = a * b;
                    break;
                case '/':
                case '%':
                    if (b == 0) {
                        return BROKEN;
                    }
                    value = sign == '/' ? a / b : a % b;
                    break;
                default:
                    return BROKEN;
            }
            return value > MOST || value < -MOST ? BROKEN : (int) value;
        }
    }

    /** The TAPE, and the reading of it: each method that answers false stands at the FAULT. */
    private static final class Reader {
        private static final int TAPE = 400;
        private static final int PARTS = 50;
        private static final int BRACKETS = 8;
        private static final int HIGHEST_NUMBER = 1000;
        private static final int MOST_TIMES = 20;
        // A token of the TAPE puts two codes at most, a CLAUSE two more.
        private static final int CODES = 2 * TAPE + 2 * Script.CLAUSES + 2;

        private static final int AT_END = 0;
        private static final int SIGN = 1;
        private static final int LETTERS = 2;
        private static final int DIGITS = 3;

        private static final String LAW_VERBS = "beats skips turns keeps";
        private static final String LAW_WORDS = "child quick rhyme beat many round mood";
        private static final String ORDER_VERBS = "say join leave pass";
        private static final String ORDER_WORDS = "round done latest many at in quick";
        private static final int FIRST_OF_CHILD = 5;

        private final byte[] tape = new byte[TAPE];
        private final Script draft = new Script(CODES);
        private int length = 0;
        private boolean ofLaw = true;
        private int parts = 0;
        private int kind = AT_END;
        private int start = 0;
        private int stop = 0;
        private int number = 0;

        private boolean hasRoomFor(int bytes) {
            return length + bytes <= TAPE;
        }

        private void append(int four) {
            for (int shift = 24; shift >= 0 && length < TAPE; shift -= 8) {
                tape[length] = (byte) (four >> shift);
                length++;
            }
        }

        /** Reads the TAPE into the draft and empties it: the FAULT's place, or NONE. */
        private int readAll(boolean asLaw) {
            ofLaw = asLaw;
            parts = 0;
            stop = 0;
            draft.clear();
            step();
            boolean whole = false;
            for (int c = 0; c < Script.CLAUSES && clause(c); c++) {
                whole = kind == AT_END;
                if (!isSign(';')) {
                    break;
                }
                step();
            }
            length = 0;
            return whole ? NONE : start;
        }

        private boolean clause(int c) {
            int verb = which(ofLaw ? LAW_VERBS : ORDER_VERBS);
            if (verb == NONE) {
                return false;
            }
            step();
            draft.kinds[c] = verb;
            draft.kindsUsed |= 1 << verb;
            draft.times[c] = 1;
            draft.sums[c] = 0;
            draft.tests[c] = 0;
            draft.clauses = c + 1;
            if (ofLaw ? verb == BEATS : verb != PASSES) {
                draft.sums[c] = draft.size;
                if (!sum(0)) {
                    return false;
                }
                draft.put(Script.STOP);
            }
            if (!ofLaw && which("times") == 0) {
                step();
                if (kind != DIGITS || number < 1 || number > MOST_TIMES) {
                    return false;
                }
                draft.times[c] = number;
                step();
            }
            if (which("if") == 0) {
                step();
                draft.tests[c] = draft.size;
                if (!test(0)) {
                    return false;
                }
                draft.put(Script.STOP);
            }
            return true;
        }

        private boolean test(int depth) {
            int orJump = 0;
            for (int i = 0; i < TAPE; i++) {
                int andJump = 0;
                for (int j = 0; j < TAPE; j++) {
                    if (!plain(depth)) {
                        return false;
                    }
                    draft.land(andJump);
                    if (which("and") == NONE) {
                        break;
                    }
                    andJump = draft.putJump(Script.AND);
                    step();
                }
                draft.land(orJump);
                if (which("or") == NONE) {
                    return true;
                }
                orJump = draft.putJump(Script.OR);
                step();
            }
            return false;
        }

        private boolean plain(int depth) {
            boolean negated = false;
            // A row of "not" is no nesting: read in a loop it can't grow the calls that stand open.
            for (int i = 0; i < TAPE && which("not") == 0; i++) {
                negated = !negated;
                step();
            }
            if (isSign('(')) {
                if (depth >= BRACKETS) {
                    return false;
                }
                step();
                if (!test(depth + 1) || !isSign(')')) {
                    return false;
                }
                step();
            } else {
                if (!sum(depth) || !isSign('<') && !isSign('>') && !isSign('=')) {
                    return false;
                }
                int sign = tape[start];
                step();
                if (!sum(depth)) {
                    return false;
                }
                draft.put(sign);
            }
            if (negated) {
                draft.put(Script.NOT);
            }
            return true;
        }

        private boolean sum(int depth) {
            int adding = 0;
            for (int i = 0; i < TAPE; i++) {
                if (!part(depth)) {
                    return false;
                }
                for (int j = 0; j < TAPE && (isSign('*') || isSign('/') || isSign('%')); j++) {
                    int sign = tape[start];
                    step();
                    if (!part(depth)) {
                        return false;
                    }
                    draft.put(sign);
                }
                if (adding != 0) {
                    draft.put(adding);
                }
                if (!isSign('+') && !isSign('-')) {
                    return true;
                }
                adding = tape[start];
                step();
            }
            return false;
        }

        private boolean part(int depth) {
            if (isSign('[')) {
                if (depth >= BRACKETS) {
                    return false;
                }
                step();
                if (!sum(depth + 1) || !isSign(']')) {
                    return false;
                }
                step();
                return true;
            }
            boolean isNumber = kind == DIGITS && number <= HIGHEST_NUMBER;
            int value = isNumber ? number : which(ofLaw ? LAW_WORDS : ORDER_WORDS);
            if (value == NONE || parts >= PARTS) {
                return false;
            }
            parts++;
            step();
            if (!isNumber && !ofLaw && value >= FIRST_OF_CHILD) {
                if (kind != DIGITS || number >= CHILDREN) {
                    return false;
                }
                value = FIRST_OF_CHILD + (value - FIRST_OF_CHILD) * CHILDREN + number;
                step();
            }
            draft.put(isNumber ? Script.NUMBER : Script.WORD);
            draft.put(value);
            return true;
        }

        /** Goes on to the next TOKEN. */
        private void step() {
            int i = stop;
            while (i < length && tape[i] == ' ') {
                i++;
            }
            start = i;
            number = 0;
            kind = AT_END;
            if (i < length) {
                kind = SIGN;
                while (i < length && tape[i] >= 'a' && tape[i] <= 'z') {
                    kind = LETTERS;
                    i++;
                }
                while (kind != LETTERS && i < length && tape[i] >= '0' && tape[i] <= '9') {
                    kind = DIGITS;
                    // Beyond the highest one it is a FAULT anyway, however many digits follow.
                    number = number > HIGHEST_NUMBER ? number : number * 10 + tape[i] - '0';
                    i++;
                }
                if (kind == SIGN) {
                    i++;
                }
            }
            stop = i;
        }

        private boolean isSign(int sign) {
            return kind == SIGN && tape[start] == sign;
        }

        /** Which of some words, told with blanks between, the TOKEN is. */
        private int which(String words) {
            if (kind != LETTERS) {
                return NONE;
            }
            int word = 0;
            int alike = 0;
            for (int i = 0; i <= words.length(); i++) {
                if (i == words.length() || words.charAt(i) == ' ') {
                    if (alike == stop - start) {
                        return word;
                    }
                    word++;
                    alike = 0;
                } else if (alike != NONE) {
                    boolean same = start + alike < stop && tape[start + alike] == words.charAt(i);
                    alike = same ? alike + 1 : NONE;
                }
            }
            return NONE;
        }
    }

    /** How a RHYME goes when it is said, by the LAW and the ROUND to which it was tuned. */
    private static final class Voice {
        // A stamp and a state, or a stamp and eight bits, still make an int.
        private static final int LAST_STAMP = 1000000;

        private final Ring ring;
        private final int[] facts = new int[7];
        private final int[] stack = new int[Script.STACK];
        private final int[] fallen = new int[LONGEST + 1];
        // What was asked and said once is kept while the stamp is the same: the paper asks it often.
        private final int[] asked = new int[RHYMES * CHILDREN * (LONGEST + 1) * (CHILDREN + 1)];
        private final int[] behind = new int[RHYMES * STATES];
        private int stamp = 1;
        private Script law = null;
        private int round = 0;
        private int mood = 0;
        private int spoken = 0;

        private Voice(Ring ring) {
            this.ring = ring;
        }

        private void forget() {
            stamp++;
            if (stamp > LAST_STAMP) {
                stamp = 1;
                Arrays.fill(asked, 0);
                Arrays.fill(behind, 0);
            }
        }

        private void tune(Script newLaw, int newRound) {
            if (newLaw != law || newRound != round || ring.terms[MOOD] != mood) {
                forget();
                law = newLaw;
                round = newRound;
                mood = ring.terms[MOOD];
            }
        }

        /** Says a RHYME, with so many BEATS less: who is OUT, or STAYS and who stays. */
        private int speak(int in, int at, int rhyme, int less) {
            int many = Integer.bitCount(in);
            int who = firstIn(in, at);
            int way = 1;
            spoken = Math.max(1, lengthOf(rhyme, who, many) - less);
            for (int beat = 1; beat <= spoken && beat <= LONGEST; beat++) {
                if (beat > 1) {
                    who = nextIn(in, who, way);
                }
                for (int gone = 0; gone < many && isSo(SKIPS, rhyme, who, beat, many); gone++) {
                    who = nextIn(in, who, way);
                }
                fallen[beat] = who;
                if (isSo(TURNS, rhyme, who, beat, many)) {
                    way = -way;
                }
            }
            return isSo(KEEPS, rhyme, who, spoken, many) ? STAYS + who : who;
        }

        private int stateBehind(int in, int told) {
            int who = told % STAYS;
            int stillIn = told < STAYS ? in & ~(1 << who) : in;
            int at = who + 1 < ring.children ? who + 1 : 0;
            return stillIn * PLACES + at;
        }

        /** The state behind a saying. */
        private int after(int state, int rhyme) {
            int cell = rhyme * STATES + state;
            if (cell < 0 || cell >= behind.length) {
                return state;
            }
            if (behind[cell] / STATES != stamp) {
                int in = state / PLACES;
                int next = stateBehind(in, speak(in, state % PLACES, rhyme, 0));
                behind[cell] = stamp * STATES + next;
            }
            return behind[cell] % STATES;
        }

        private int firstIn(int in, int at) {
            return (in >> at & 1) == 1 ? at : nextIn(in, at, 1);
        }

        private int nextIn(int in, int who, int way) {
            int next = who;
            for (int i = 0; i < ring.children; i++) {
                next += way;
                if (next >= ring.children) {
                    next = 0;
                } else if (next < 0) {
                    next = ring.children - 1;
                }
                if ((in >> next & 1) == 1) {
                    return next;
                }
            }
            return who;
        }

        /** How many BEATS are said of a RHYME that begins at a CHILD. */
        private int lengthOf(int rhyme, int child, int many) {
            int beats = ring.beats[rhyme];
            if (law == null || !law.has(BEATS)) {
                return beats;
            }
            gatherFacts(rhyme, child, 0, many);
            for (int c = law.clauses - 1; c >= 0; c--) {
                int test = law.tests[c];
                if (law.kinds[c] == BEATS && (test == 0 || law.worth(test, facts, stack) == 1)) {
                    int told = law.worth(law.sums[c], facts, stack);
                    if (told != BROKEN) {
                        return Math.max(1, Math.min(LONGEST, told));
                    }
                }
            }
            return beats;
        }

        /** Whether a CLAUSE of that kind HOLDS. */
        private boolean isSo(int kind, int rhyme, int child, int beat, int many) {
            int cell = ((rhyme * CHILDREN + child) * (LONGEST + 1) + beat) * (CHILDREN + 1) + many;
            if (law == null || !law.has(kind) || cell < 0 || cell >= asked.length) {
                return false;
            }
            // Below the stamp: bits 0 .. 3 tell what was asked, bits 4 .. 7 what was so.
            int kept = asked[cell] >> 8 == stamp ? asked[cell] : stamp << 8;
            if ((kept >> kind & 1) == 1) {
                return (kept >> kind & 16) != 0;
            }
            boolean so = false;
            gatherFacts(rhyme, child, beat, many);
            for (int c = 0; c < law.clauses && !so; c++) {
                int test = law.tests[c];
                so = law.kinds[c] == kind && (test == 0 || law.worth(test, facts, stack) == 1);
            }
            asked[cell] = kept | (so ? 17 : 1) << kind;
            return so;
        }

        /** The words of LAWS, in the order of Reader.LAW_WORDS. */
        private void gatherFacts(int rhyme, int child, int beat, int many) {
            facts[0] = child;
            facts[1] = ring.quick[child];
            facts[2] = rhyme;
            facts[3] = beat;
            facts[4] = many;
            facts[5] = round;
            facts[6] = mood;
        }
    }

    /** What would come of sayings; nothing of the ring is changed by it. */
    private static final class Paper {
        private static final int MOST_SAYINGS = 60;
        private static final int GAME_SAYINGS = 12;
        private static final long ALL_PARTS = 1000000000000L;
        private static final int START = -2;

        private final Ring ring;
        private final Voice voice;
        private final int[] wentOut = new int[CHILDREN];
        private final int[] queue = new int[STATES];
        private final int[] cameBy = new int[STATES];
        private final int[] its = new int[STATES];
        private final int[] itsAhead = new int[STATES];
        private final long[] parts = new long[STATES];
        private final long[] partsBehind = new long[STATES];
        private int gone = 0;
        private int reached = 0;
        private int chosen = NONE;

        private Paper(Ring ring, Voice voice) {
            this.ring = ring;
            this.voice = voice;
        }

        /** Who is the only one IN; NONE if none or more are. */
        private static int onlyOneIn(int state) {
            int in = state / PLACES;
            return Integer.bitCount(in) == 1 ? Integer.numberOfTrailingZeros(in) : NONE;
        }

        private static boolean goesOn(int state) {
            return Integer.bitCount(state / PLACES) > 1;
        }

        /** Who is LEFT by a RHYME, or NONE; who went OUT, in order, is kept. */
        private int lastBy(int start, int rhyme) {
            int state = start;
            gone = 0;
            for (int i = 0; i < MOST_SAYINGS && goesOn(state); i++) {
                int next = voice.after(state, rhyme);
                int out = state / PLACES & ~(next / PLACES);
                if (out != 0 && gone < wentOut.length) {
                    wentOut[gone] = Integer.numberOfTrailingZeros(out);
                    gone++;
                }
                state = next;
            }
            return onlyOneIn(state);
        }

        /**
         * The first state in which just those of a goal are IN, NONE without one. States come by
         * how many sayings lead there, those of as many by their first rows of RHYMES.
         */
        private int reach(int start, int goal) {
            Arrays.fill(cameBy, NONE);
            cameBy[start] = START;
            queue[0] = start;
            reached = 1;
            if (start / PLACES == goal) {
                return start;
            }
            for (int i = 0; i < reached && i < STATES; i++) {
                int state = queue[i];
                for (int rhyme = 0; rhyme < ring.rhymes && goesOn(state); rhyme++) {
                    int next = voice.after(state, rhyme);
                    if (cameBy[next] != NONE || reached >= STATES) {
                        continue;
                    }
                    cameBy[next] = state * RHYMES + rhyme;
                    queue[reached] = next;
                    reached++;
                    if (next / PLACES == goal) {
                        return next;
                    }
                }
            }
            return NONE;
        }

        private int sayingsTo(int goal) {
            int sayings = 0;
            int state = goal;
            while (sayings < STATES && cameBy[state] >= 0) {
                state = cameBy[state] / RHYMES;
                sayings++;
            }
            return sayings;
        }

        /** The RHYME that many sayings ahead of the last one to a goal. */
        private int rhymeAhead(int goal, int ahead) {
            int state = goal;
            for (int i = 0; i < ahead && cameBy[state] >= 0; i++) {
                state = cameBy[state] / RHYMES;
            }
            return cameBy[state] < 0 ? NONE : cameBy[state] % RHYMES;
        }

        /** Who is IT in a GAME, or NONE; the first RHYME is kept. */
        private int play(int start) {
            int[] now = its;
            int[] ahead = itsAhead;
            chosen = NONE;
            reach(start, NONE);
            for (int i = 0; i < reached; i++) {
                now[queue[i]] = onlyOneIn(queue[i]);
            }
            // What one saying more did not change, no further one changes.
            boolean changed = ring.rhymes > 0;
            for (int sayings = 0; sayings < GAME_SAYINGS && changed; sayings++) {
                changed = false;
                for (int i = 0; i < reached; i++) {
                    int state = queue[i];
                    ahead[state] = now[state];
                    if (goesOn(state)) {
                        int choice = choose(state, now);
                        ahead[state] = now[voice.after(state, choice)];
                        chosen = state == start ? choice : chosen;
                        changed = changed || ahead[state] != now[state];
                    }
                }
                int[] other = now;
                now = ahead;
                ahead = other;
            }
            return now[start];
        }

        private int choose(int state, int[] itBehind) {
            int chooser = voice.firstIn(state / PLACES, state % PLACES);
            for (int rhyme = 0; rhyme < ring.rhymes; rhyme++) {
                if (itBehind[voice.after(state, rhyme)] != chooser) {
                    return rhyme;
                }
            }
            return 0;
        }

        /** Of all parts those by which a CHILD is IN behind n sayings. */
        private long partsIn(int start, int child, int n) {
            long[] now = parts;
            long[] then = partsBehind;
            Arrays.fill(now, 0);
            Arrays.fill(then, 0);
            now[start] = ALL_PARTS;
            int states = Math.min(STATES, (ring.everyone() + 1) * PLACES);
            boolean spoken = true;
            for (int i = 0; i < n && spoken; i++) {
                spoken = false;
                for (int state = 0; state < states; state++) {
                    if (now[state] != 0) {
                        handOn(state, now[state], then);
                        now[state] = 0;
                        spoken = spoken || goesOn(state);
                    }
                }
                long[] other = now;
                now = then;
                then = other;
            }
            long sum = 0;
            for (int state = 0; state < states; state++) {
                if ((state / PLACES >> child & 1) == 1) {
                    sum += now[state];
                }
            }
            return sum;
        }

        private void handOn(int state, long many, long[] then) {
            if (!goesOn(state) || ring.rhymes == 0) {
                then[state] += many;
                return;
            }
            long share = many / ring.rhymes;
            for (int rhyme = 0; rhyme < ring.rhymes; rhyme++) {
                then[voice.after(state, rhyme)] += share;
            }
        }

        /**
         * How many rows of k RHYMES are SAID (i NONE), else the i-th of them, NONE without it. A
         * row is a number whose digits, to the base of how many RHYMES there are, are its RHYMES.
         */
        private int rowsSaid(int k, int i) {
            int rows = 1;
            for (int j = 0; j < k; j++) {
                rows *= ring.rhymes;
            }
            int found = 0;
            for (int candidate = 0; candidate < rows; candidate++) {
                if (leadsHere(candidate, k)) {
                    if (found == i) {
                        return candidate;
                    }
                    found++;
                }
            }
            return i == NONE ? found : NONE;
        }

        private boolean leadsHere(int candidate, int k) {
            int state = ring.everyone() * PLACES;
            for (int j = k - 1; j >= 0; j--) {
                if (!goesOn(state)) {
                    return false;
                }
                state = voice.after(state, digit(candidate, j));
            }
            return state == ring.in * PLACES + ring.terms[AT];
        }

        private int digit(int number, int place) {
            if (ring.rhymes == 0) {
                return 0;
            }
            int rest = number;
            for (int j = 0; j < place; j++) {
                rest /= ring.rhymes;
            }
            return rest % ring.rhymes;
        }
    }

    /** QUARTERS, and what the latest of them led to. */
    private static final class Draws {
        private final Ring ring;
        private final Voice voice;
        private final int[] timesAlone = new int[CHILDREN];
        // Those of the latest QUARTERS: the ring may have more or less of them since.
        private int children = 0;
        private int in = 0;
        private long seed = 0;

        private Draws(Ring ring, Voice voice) {
            this.ring = ring;
            this.voice = voice;
        }

        private int draw(int many) {
            seed = (seed * 1103 + 12345) % 1000003;
            return many < 1 ? 0 : (int) (seed % many);
        }

        /** How many ROUNDS passed. */
        private int run(int newSeed, int sayings) {
            int round = ring.terms[ROUND];
            int state = ring.state();
            int passed = 0;
            seed = newSeed;
            children = ring.children;
            Arrays.fill(timesAlone, 0);
            for (int i = 0; i < sayings; i++) {
                if (!Paper.goesOn(state)) {
                    if (round >= LAST_ROUND) {
                        break;
                    }
                    round++;
                    passed++;
                    state = ring.everyone() * PLACES;
                    if (!Paper.goesOn(state)) {
                        break;
                    }
                }
                voice.tune(ring.lawInForce(), round);
                state = stateBehindDraws(state);
                int who = Paper.onlyOneIn(state);
                if (who >= 0 && who < timesAlone.length) {
                    timesAlone[who]++;
                }
            }
            in = state / PLACES;
            return passed;
        }

        private int stateBehindDraws(int state) {
            int rhyme = draw(ring.rhymes);
            int less = draw(10) < ring.terms[SLIP] ? 1 : 0;
            int told = voice.speak(state / PLACES, state % PLACES, rhyme, less);
            return voice.stateBehind(state / PLACES, told);
        }
    }
}
