import java.lang.management.ManagementFactory;

/** A run of the dearest calls must leave nearly all of the room: 7.3 million fields and elements for all calls. */
public final class RoomTest {
    private static final int[] DISHES = {12345, 54321, 11111, 66666, 0, 1, 123, 4561, 3333, 24, 61616, 5};

    public static void main(String[] args) {
        com.sun.management.ThreadMXBean bean = (com.sun.management.ThreadMXBean) ManagementFactory.getThreadMXBean();
        long id = Thread.currentThread().getId();
        play();
        long before = bean.getThreadAllocatedBytes(id);
        play();
        long bytes = bean.getThreadAllocatedBytes(id) - before;
        // even if all of it were elements of two bytes each, it would be a fifth of the room
        Check.holds("bytes of a whole run: " + bytes, bytes < 3000000);
        Check.end();
    }

    private static void play() {
        DishLines x = new DishLines();
        for (int i = 0; i < 12; i++) {
            x.house(i - 1, i, DISHES[i]);
        }
        for (int i = 0; i < 38; i++) {
            x.image(0);
            // "weighs sort+1;bars i", "f has>4 and place=5 "
            x.feed(0x77656967, 0x68732073, 0x6f72742b, 0x313b6261, 0x72732069);
            x.feed(0x66206861, 0x733e3420, 0x616e6420, 0x706c6163, 0x653d3520);
            Check.holds("a law", x.law() >= 0);
            x.force(0);
            x.put(i % 6, 0, i % 10);
            x.terms(0, i);
            x.first(4095, 0);
            x.lines(63, 0);
            x.odds(12, 1, 3);
            x.line(i, 0, 60);
            x.way(11111, 66666, 4);
            x.back(0);
        }
    }
}
