import com.sun.management.ThreadMXBean;
import java.lang.management.ManagementFactory;

/**
 * All calls of one run live in one room (LANGUAGE.md, rule 12): what a new show takes of it is counted, and a call
 * takes none but one that makes a BEAST.
 */
final class RoomTest {
    private static final ThreadMXBean THREADS = (ThreadMXBean) ManagementFactory.getThreadMXBean();
    private static final int TRIES = 20;
    private static final int ROUNDS = 16;
    /** Bytes that a show with its 20 BEASTS may take: some 5,000 ints. */
    private static final long MOST_OF_SHOW = 20_000;

    private RoomTest() {
    }

    public static void main(String[] args) {
        long ofShow = Long.MAX_VALUE;
        long ofCalls = Long.MAX_VALUE;
        // The machine loads what it needs at the first calls; the least try has the class's own bytes alone.
        for (int i = 0; i < TRIES; i++) {
            long start = THREADS.getCurrentThreadAllocatedBytes();
            CattleShow show = Shows.of(20);
            long made = THREADS.getCurrentThreadAllocatedBytes();
            useAll(show);
            long used = THREADS.getCurrentThreadAllocatedBytes();
            ofShow = Math.min(ofShow, made - start);
            ofCalls = Math.min(ofCalls, used - made);
            Check.due("orders that were joined", show.count(20), 6);
            Check.due("classes that had an hour", show.count(3), 5);
        }
        Check.due("a show with its beasts takes " + ofShow + " bytes", ofShow > 0 && ofShow <= MOST_OF_SHOW, true);
        Check.due("bytes that the other calls take", ofCalls, 0);
        Check.end("RoomTest");
    }

    /** Each call but beast, 30 a round, on a show that fills up. */
    private static void useAll(CattleShow show) {
        for (int round = 0; round < ROUNDS; round++) {
            for (int c = 0; c < 6; c++) {
                show.enter(c, round);
            }
            readAll(show, round);
            show.measure(round, 0, 99 - round);
            show.bar(5, 19 - round % 8);
            show.protest(5, round - 4);
            show.cut(0, 1, 15);
            show.sand(1 + round % 3);
            show.lets(0, 0);
            show.placed(0, 1);
            show.swaps(0);
            show.ring(0, 0);
            show.hour(0);
            show.team(0);
            show.price(0);
            show.look(0, 10);
            show.count(3);
        }
    }

    private static void readAll(CattleShow show, int round) {
        show.feed('b' << 24 | '0' << 16 | '1' << 8 | '2', '3' << 24 | ';' << 16 | 'm' << 8 | '0', '<' << 24, 0, 0);
        show.text(0, 9);
        show.feed('m' << 24 | '1' << 16 | '<' << 8 | '9', '9' << 24, 0, 0, 0);
        show.text(1, 5);
        show.feed(0x07000102, 0x03040506, 0, 0, 0);
        show.order(round % 6, 0);
        show.feed(0x00010702, 0, 0, 0, 0);
        show.card(0);
        show.feed('a' << 24 | '>' << 16 | 'b' << 8 | ':', '0' << 24 | '-' << 16 | '1' << 8 | '2', 0, 0, 0);
        show.reasons(0, 8);
    }
}
