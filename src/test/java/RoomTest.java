import com.sun.management.ThreadMXBean;
import java.lang.management.ManagementFactory;

/** The room: an object and its 512 dearest calls make little. */
public final class RoomTest {
    // Some 7.3 million elements are all the room of a run; eight bytes each is the dearest element.
    private static final long MOST_BYTES = 2_000_000;

    private static void text(ItByRhyme x, String s) {
        StringBuilder padded = new StringBuilder(s);
        while (padded.length() % 20 != 0) padded.append(' ');
        for (int i = 0; i < padded.length(); i += 20) {
            int[] n = new int[5];
            for (int k = 0; k < 20; k++) n[k / 4] = n[k / 4] << 8 | padded.charAt(i + k);
            x.feed(n[0], n[1], n[2], n[3], n[4]);
        }
        x.end(s.length());
    }

    private static void fill(ItByRhyme x) {
        for (int c = 0; c < 6; c++) x.child(c);
        for (int r = 0; r < 5; r++) x.rhyme(15 - r);
        text(x, "skips if [beat+child*rhyme]%3=1;skips if quick*beat%7=round;turns if beat*rhyme%4=1;"
            + "turns if child+many=mood;keeps if [child+beat]%5=rhyme;beats 9+child+rhyme;skips if child=beat");
        x.law();
        x.force(0);
    }

    private static long dear(int kind) {
        ItByRhyme x = new ItByRhyme();
        fill(x);
        long sum = 0;
        for (int i = 0; i < 470; i++) {
            switch (kind) {
                case 0 -> sum += x.chances(i % 6, 20);
                case 1 -> sum += x.game(0);
                case 2 -> sum += x.alone(i % 6, -1);
                case 3 -> sum += x.said(4, -1, 0);
                case 4 -> sum += x.safe(i % 6, i % 5);
                case 5 -> sum += x.quarters(i, 60);
                case 6 -> sum += i % 2 == 0 ? x.image(0) : x.back(0);
                case 7 -> sum += i % 2 == 0 ? x.compare(-1, 0) : x.chances(0, 20);
                case 8 -> { text(x, "say 0 if many>1;pass times 9;leave 1;join 1;say 4"); sum += x.orders(); }
                default -> { text(x, "beats 1+child;skips if quick=3"); sum += x.law(); x.back(1); }
            }
        }
        return sum;
    }

    /** Behind its 512th call an object may answer what it likes, but it must answer. */
    private static void useForLong() {
        ItByRhyme x = new ItByRhyme();
        fill(x);
        for (int i = 0; i < 9_000_000; i++) {
            x.terms(3, i % 10);
            x.asks(i % 5, i % 6, i % 16, 1 + i % 3);
            if (i % 10_000 == 0 || i > 999_900 && i < 1_000_100) {
                x.chances(0, 20);
                x.game(0);
            }
        }
    }

    public static void main(String[] args) {
        useForLong();
        ThreadMXBean threads = (ThreadMXBean) ManagementFactory.getThreadMXBean();
        long id = Thread.currentThread().getId();
        dear(0);
        int wrong = 0;
        for (int kind = 0; kind < 10; kind++) {
            long before = threads.getThreadAllocatedBytes(id);
            dear(kind);
            long bytes = threads.getThreadAllocatedBytes(id) - before;
            System.out.println("kind " + kind + ": " + bytes + " bytes");
            if (bytes > MOST_BYTES) wrong++;
        }
        System.out.println(wrong == 0 ? "there is room" : "too much was made");
        if (wrong != 0) System.exit(1);
    }
}
