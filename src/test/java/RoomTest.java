import com.sun.management.ThreadMXBean;
import java.lang.management.ManagementFactory;

/** What a run makes, counted in bytes, stays far below the room that all its calls share. */
public final class RoomTest {
    private static final Due due = new Due("RoomTest");
    private static final int CALLS = 512;
    /** A field or element takes a byte at least and an object sixteen, so neither limit is passed below this. */
    private static final long MOST_BYTES = 7300000;
    private static final ThreadMXBean MEMORY = (ThreadMXBean) ManagementFactory.getThreadMXBean();

    private interface Run {
        void calls();
    }

    public static void main(String[] args) {
        measure("new objects", RoomTest::objects);
        measure("texts of three parts sent up and put together again", RoomTest::longTexts);
        measure("damaged rows thrown away", RoomTest::damagedRows);
        measure("copies taken", RoomTest::copies);
        measure("offers until too old", RoomTest::offers);
        due.end();
    }

    private static void measure(String run, Run calls) {
        due.about(run);
        // The first run loads classes, which are no part of the room.
        calls.calls();
        long before = MEMORY.getCurrentThreadAllocatedBytes();
        calls.calls();
        long used = MEMORY.getCurrentThreadAllocatedBytes() - before;
        due.is("at most " + MOST_BYTES + " bytes, used " + used, used <= MOST_BYTES, true);
    }

    private static void objects() {
        for (int k = 0; k < CALLS; k++) {
            new SeptetCentre();
        }
    }

    /** Thirty-three texts of three parts each are as many as the centre's hundred messages leave room for. */
    private static void longTexts() {
        SeptetCentre x = Steps.ready();
        Steps.type(x, 'a', 459);
        for (int k = 0; k < 33; k++) {
            x.send(0, 1002, 143, true);
            Steps.receiveAll(x);
            x.advance(1);
            for (int part = 0; part < 3; part++) {
                x.take(1);
                x.report(0);
            }
        }
    }

    private static void damagedRows() {
        SeptetCentre x = Steps.ready();
        Steps.type(x, 'a', 459);
        for (int k = 0; k < CALLS / 7; k++) {
            x.send(0, 1002, 143, true);
            for (int part = 0; part < 3; part++) {
                x.alter(0, 1);
                x.receive();
            }
        }
    }

    private static void copies() {
        SeptetCentre x = Steps.ready();
        Steps.type(x, 'a', 459);
        x.send(0, 1002, 143, true);
        Steps.receiveAll(x);
        x.advance(0);
        for (int k = 0; k < CALLS / 2; k++) {
            x.copy(1);
            x.take(1);
        }
    }

    private static void offers() {
        SeptetCentre x = Steps.ready();
        x.power(1, false);
        Steps.type(x, 'a', 153);
        for (int round = 0; round < 8; round++) {
            for (int k = 0; k < 12; k++) {
                x.send(0, 1002, 143, true);
                x.receive();
            }
            x.advance(100000);
        }
    }
}
