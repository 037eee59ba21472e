import java.lang.management.ManagementFactory;

/** The rows are made once and used again: the dearest runs stay far below the room, and used calls make nothing. */
public final class RoomTest {
    /** 7.3 million elements of up to 8 bytes are the room of a run; an object and all its rows stay below this. */
    private static final long MOST = 700_000;
    private static final long CHEAP = 20_000;
    /** What the measuring itself makes. */
    private static final long MEASURE = 2_000;

    private static int wrong = 0;

    private static long made() {
        com.sun.management.ThreadMXBean bean = (com.sun.management.ThreadMXBean) ManagementFactory.getThreadMXBean();
        return bean.getThreadAllocatedBytes(Thread.currentThread().getId());
    }

    private static void below(String what, long bytes, long most) {
        if (bytes > most) {
            wrong++;
            System.out.println(what + " made " + bytes + " bytes, more than " + most);
        }
    }

    private static CountedChest begun(int things, int... prices) {
        CountedChest x = new CountedChest();
        for (int p : prices) x.sign(p);
        for (int t = 0; t < things; t++) x.thing(Float.floatToRawIntBits(1 + t % 7));
        return x;
    }

    private static void all(CountedChest x, int turns) {
        for (int turn = 0; turn < turns; turn++) {
            for (int kind = 0; kind < 4; kind++) {
                x.build(kind, 1);
                x.step();
                x.keep(kind);
                x.canon();
            }
            x.build(1, 6);
            x.node(0, 5);
            x.hear();
            x.read();
            x.mean();
            x.room();
            x.holds(2, 0);
            x.differs(0);
            x.back(0);
            x.told(4);
            x.grow();
            for (int k = 0; k < 20; k++) {
                x.send(k % 5);
                x.put(1);
            }
        }
    }

    private static void look(int things, int... prices) {
        long before = made();
        CountedChest x = begun(things, prices);
        long begun = made();
        all(x, 1);
        long once = made();
        all(x, 6);
        long end = made();
        below("a beginning", begun - before, CHEAP);
        below("the first use", once - before, MOST);
        below("later use", end - once, MEASURE);
    }

    public static void main(String[] args) {
        made();
        all(begun(6, 1, 1), 1); // classes are loaded at their first use: that is not looked at
        look(24, 1, 1);
        look(24, 9, 9, 9, 9);
        look(8, 1, 2, 3, 3);
        look(24, 1, 2, 3);
        System.out.println(wrong == 0 ? "the room suffices" : wrong + " runs are too large");
        if (wrong != 0) {
            System.exit(1);
        }
    }
}
