/** What the tests share: rows of calls with the answers that are due, and texts put on the TAPE. */
final class Due {
    private int wrong = 0;
    private String part = "";

    void part(String name) {
        part = name;
    }

    void due(String what, long got, long want) {
        if (got != want) {
            wrong++;
            System.out.println(part + ": " + what + " answered " + got + ", due is " + want);
        }
    }

    /** Calls that are due to answer as many numbers. */
    void dues(String what, long[] got, long... want) {
        due(what + " (how many)", got.length, want.length);
        for (int i = 0; i < got.length && i < want.length; i++) due(what + " #" + i, got[i], want[i]);
    }

    void close() {
        System.out.println(wrong == 0 ? "all answers are as due" : wrong + " answers are not as due");
        if (wrong != 0) System.exit(1);
    }

    static void put(ItByRhyme x, String text) {
        StringBuilder padded = new StringBuilder(text);
        while (padded.length() % 20 != 0) padded.append((char) 1);
        int had = x.count(5);
        for (int i = 0; i < padded.length(); i += 20) {
            int[] n = new int[5];
            for (int k = 0; k < 20; k++) n[k / 4] = n[k / 4] << 8 | padded.charAt(i + k) & 255;
            x.feed(n[0], n[1], n[2], n[3], n[4]);
        }
        x.end(had + text.length());
    }

    static int law(ItByRhyme x, String text) {
        put(x, text);
        return x.law();
    }

    static int orders(ItByRhyme x, String text) {
        put(x, text);
        return x.orders();
    }

    /** The FAULT of a TEXT, read on an object of its own. */
    static int faultOf(boolean law, String text) {
        ItByRhyme x = new ItByRhyme();
        put(x, text);
        if (law) x.law();
        else x.orders();
        return x.fault();
    }

    /** A ring of so many CHILDREN (QUICK 1, 2, ..) with RHYMES of these BEATS. */
    static ItByRhyme ring(int children, int... beats) {
        ItByRhyme x = new ItByRhyme();
        for (int c = 0; c < children; c++) x.child(c + 1);
        for (int b : beats) x.rhyme(b);
        return x;
    }
}
