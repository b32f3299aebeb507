import java.util.stream.IntStream;

/** Arguments at the edges and beyond, and ways to bring an object there. */
final class Edges {
    // Among them the answers that tell something (-5 .. 0, 1000), the bounds of the
    // document with their neighbours, and numbers whose shifts wrap around (32, 64).
    private static final int[] INTS = {
        Integer.MIN_VALUE, Integer.MIN_VALUE + 1, -65536, -1000, -100, -99, -64, -32, -17, -16, -8, -6, -5, -4, -3,
        -2, -1, 0, 1, 2, 3, 4, 5, 6, 7, 8, 9, 10, 11, 12, 13, 14, 15, 16, 17, 31, 32, 33, 34, 64, 98, 99, 100, 101,
        256, 999, 1000, 1001, 65536, 1 << 30, Integer.MAX_VALUE - 1, Integer.MAX_VALUE,
    };

    private Edges() {
    }

    static int[] ints() {
        return INTS.clone();
    }

    /** Numbers below 0 and from the count on. */
    static int[] badOf(int count) {
        return IntStream.of(INTS).filter(i -> i < 0 || i >= count).toArray();
    }

    /** 31 * value + x, worked out in long numbers and cut off at 32 bits. */
    static int mixed(int value, int x) {
        return (int) (31L * value + x);
    }

    static void setValue(Calls x, int p, int value) {
        x.step(p, value - 31 * x.value(p));
    }

    /** Sends and delivers a message; it lies in the answered slot. */
    static int pass(Calls x, int p, int q) {
        int slot = x.send(p, q);
        x.deliver(slot);
        return slot;
    }

    /** Saves until the interval number is there, and makes room before and after. */
    static void raise(Calls x, int p, int number) {
        for (int next = x.interval(p) + 1; next <= number; next++) {
            x.reclaim();
            x.checkpoint(p);
        }
        x.reclaim();
    }

    static void fillSlots(Calls x, int p, int q, int count) {
        for (int i = 0; i < count; i++) {
            x.send(p, q);
        }
    }
}
