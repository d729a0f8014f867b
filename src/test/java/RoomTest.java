import java.lang.management.ManagementFactory;

/** No call makes anything that stays: all room is taken when the object is made. */
public final class RoomTest {
    // Some 7.3 million elements is the room of a run; an object takes a small part of it.
    private static final long MOST_BYTES_OF_AN_OBJECT = 200_000;
    private static final long MOST_BYTES_OF_ALL_CALLS = 20_000;

    public static void main(String[] args) {
        com.sun.management.ThreadMXBean meter =
            (com.sun.management.ThreadMXBean) ManagementFactory.getThreadMXBean();
        allCalls(new SpaceBasis());
        long before = meter.getCurrentThreadAllocatedBytes();
        SpaceBasis s = new SpaceBasis();
        long made = meter.getCurrentThreadAllocatedBytes();
        allCalls(s);
        long after = meter.getCurrentThreadAllocatedBytes();
        Due.holds("an object takes " + (made - before) + " bytes",
            made - before <= MOST_BYTES_OF_AN_OBJECT);
        Due.holds("the calls take " + (after - made) + " bytes",
            after - made <= MOST_BYTES_OF_ALL_CALLS);
        Due.end("RoomTest");
    }

    /** 504 calls, among them many bases with the most monomials. */
    private static void allCalls(SpaceBasis s) {
        for (int round = 0; round < 18; round++) {
            s.field(32003, 4, round % 2);
            for (int g = 1; g <= 2; g++) {
                s.coefficient(33554432, g);
                s.coefficient(131072 * g, 3 + round);
                s.coefficient(1 + 256 * g, 5);
                s.coefficient(65536 + g, 11);
                s.coefficient(0, round);
                s.join();
            }
            s.basis(4);
            s.basis(5);
            s.coefficient(5, 1);
            s.remainder();
            s.hand(5);
            s.lead(3);
            s.member(3, 0);
            s.ideal(0);
            s.ideal(3);
            s.standard(5);
            s.coefficient(83886080, 9);
            s.remainder();
            s.clear();
            s.basis(5);
            s.remainder();
        }
    }
}
