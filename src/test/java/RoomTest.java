import java.lang.management.ManagementFactory;

/** What new objects and calls make, in bytes: all calls of a run live in one room. */
public final class RoomTest {
    private static final long MOST_OF_AN_OBJECT = 100_000;
    private static final long MOST_OF_CALLS = 4_000;

    public static void main(String[] args) {
        com.sun.management.ThreadMXBean bean = (com.sun.management.ThreadMXBean) ManagementFactory.getThreadMXBean();
        FareNumbers x = new FareNumbers();
        run(x);
        long before = bean.getCurrentThreadAllocatedBytes();
        for (int i = 0; i < 10; i++) {
            x = new FareNumbers();
        }
        long ofObject = (bean.getCurrentThreadAllocatedBytes() - before) / 10;
        before = bean.getCurrentThreadAllocatedBytes();
        run(x);
        long ofCalls = bean.getCurrentThreadAllocatedBytes() - before;
        System.out.println("an object takes " + ofObject + " bytes, a run of calls " + ofCalls);
        if (ofObject > MOST_OF_AN_OBJECT || ofCalls > MOST_OF_CALLS) {
            System.out.println("that is too much");
            System.exit(1);
        }
    }

    /** Each method, on a net of ten LINES that changes. */
    private static void run(FareNumbers x) {
        for (int i = 0; i < 10; i++) {
            x.lay(i % 5, i % 5 + 1 + i / 5);
        }
        for (int i = 0; i < 10; i++) {
            // rides diff;
            x.feed(0x72696465, 0x73206469, 0x66663b20, 0x20202020, 0x20202020);
            x.end(19);
            x.by(x.text());
            x.fault(0);
            x.plate(i % 7, i * i);
            x.turn(i);
            x.grant(9);
            x.day(60);
            x.played(0);
            x.years(i, 40);
            x.undo();
            x.foretold(60);
            x.said(i, i);
            x.image();
            x.back();
            asks(x, i);
        }
    }

    private static void asks(FareNumbers x, int i) {
        x.of(i, 4);
        x.ofHalt(i % 7, 1);
        x.costs(i % 7, 3);
        x.is(4);
        x.book(i, 2);
        x.fair();
        x.left();
        x.twin(true);
        x.whole(i % 7);
        x.wholes();
        x.span(-1);
        x.apart(1, 3, -1);
        x.alike(-1);
        x.alikes();
        x.unlike(i);
        x.band(-1);
        x.total();
        x.mend();
        x.names();
        x.parts();
        x.cuts();
        x.game(i);
        x.mark(i);
        x.ride(0, i % 7);
        x.change(0, i % 7, 1);
        x.whose();
        x.dearest();
        x.highest();
        x.ledger(2);
        x.about(3);
    }
}
