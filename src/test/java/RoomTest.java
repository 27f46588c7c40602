import java.lang.management.ManagementFactory;

/** All calls of a run live in one room: calls behind the first of each sort make nothing anew. */
public final class RoomTest {
    private static final String TEXT = "ware a;ware b;ware c;bench p 1,2,3;bench q 2,1,1;bench r 1,1,3;"
        + "bench s 2,1,1;bench t 3,2,1 setup 1;bench u 1,2,1 rest 3 every 5;order a every 5 from 0;"
        + "order b every 6 from 1;order c every 7 from 2;rule most";
    private static final long OBJECT_BYTES = 140_000;
    private static final long CALL_BYTES = 20_000;

    public static void main(String[] args) {
        all(new PullCards()); // what the machine makes for loading classes is not counted
        made();
        long ahead = made();
        PullCards x = new PullCards();
        all(x);
        long first = made() - ahead;
        ahead = made();
        for (int i = 0; i < 100; i++) {
            all(x);
        }
        long more = made() - ahead;
        System.out.println("an object: " + first + " bytes, 100 rounds of dear calls: " + more);
        System.exit(first <= OBJECT_BYTES && more <= CALL_BYTES ? 0 : 1);
    }

    private static void all(PullCards x) {
        for (int i = 0; i < TEXT.length(); i += 20) {
            x.feed(four(i), four(i + 4), four(i + 8), four(i + 12), four(i + 16));
        }
        x.text(TEXT.length());
        x.begin(true);
        x.run(100);
        x.cards(1, 1, 3);
        x.time(1, 1, 3);
        x.rule(2);
        x.keep(0);
        x.back(0);
        x.keep(1);
        x.thin(60);
        x.helps(100);
        x.holds(100);
        x.fewest(100, 100);
        x.comesAgain(400, 1);
        x.letter(true, 0, 0);
    }

    private static int four(int at) {
        int word = 0;
        for (int i = at; i < at + 4; i++) {
            word = word << 8 | (i < TEXT.length() ? TEXT.charAt(i) : ' ');
        }
        return word;
    }

    private static long made() {
        return ((com.sun.management.ThreadMXBean) ManagementFactory.getThreadMXBean()).getCurrentThreadAllocatedBytes();
    }
}
