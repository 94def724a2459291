import java.lang.management.ManagementFactory;

/** A whole run of the dearest calls stays far below the room that all calls of a run share. */
public final class RoomTest {
    /** 7.3 million elements of four bytes each, and of these a tenth. */
    private static final long MOST_BYTES = 7_300_000L * 4 / 10;

    private RoomTest() {
    }

    private static long taken() {
        return ManagementFactory.getThreadMXBean() instanceof com.sun.management.ThreadMXBean bean
            ? bean.getThreadAllocatedBytes(Thread.currentThread().getId()) : 0;
    }

    private static final String[] LANDS = {"R8", "L2*L2*L2", "K6*L2", "L6", "K8", "R7", "S9", "K5*L2", "K3*L3", "L4*L2"};

    private static void askAll(DesertJars x, int wells) {
        for (int w = 0; w < wells; w += 3) {
            x.reach(w, 3, true, 1);
            x.reach(w, 2, false, 0);
            x.number(w, 101);
            x.robbers(w);
            x.symmetries(w);
        }
        x.landNumber(0);
        x.fewest(100);
        x.atOnce();
        x.symmetries(100);
        x.tried(100, 0);
        x.days(20);
    }

    public static void main(String[] args) {
        // The texts are made ahead, so that only what the class itself makes is counted.
        int[] five = {0x4C332C4C, 0x32000000, 0, 0, 0};
        int[][] texts = new int[LANDS.length][];
        for (int i = 0; i < LANDS.length; i++) {
            int[] bytes = Desk.bytes(LANDS[i]);
            texts[i] = new int[5];
            for (int k = 0; k < 20; k++) {
                texts[i][k / 4] = texts[i][k / 4] << 8 | (k < bytes.length ? bytes[k] : 0);
            }
        }
        int[] laying = {0x61326232, 0x63326432, 0x65326632, 0, 0};
        int[] law = {0x65392D73, 0x28313D31, 0x29000000, 0, 0};
        askAll(new DesertJars(), 3);
        long before = taken();
        DesertJars x = new DesertJars();
        x.feed(law[0], law[1], law[2], 0, 0);
        Desk.due("law", x.law(9), 1);
        for (int round = 0; round < 2; round++) {
            for (int i = 0; i < LANDS.length; i++) {
                x.feed(texts[i][0], texts[i][1], texts[i][2], 0, 0);
                int wells = x.land(LANDS[i].length());
                x.feed(laying[0], laying[1], laying[2], 0, 0);
                Desk.due("laying", x.laying(12), 12);
                askAll(x, wells);
                x.feed(five[0], five[1], 0, 0, 0);
                Desk.due("product", x.product(5), 0);
            }
        }
        long bytes = taken() - before;
        System.out.println("RoomTest: " + bytes + " bytes");
        Desk.due("bytes taken, at most " + MOST_BYTES, bytes <= MOST_BYTES, true);
        long made = taken();
        for (int i = 0; i < 100; i++) {
            new DesertJars();
        }
        Desk.due("a new object is small", (taken() - made) / 100 < 40000, true);
        Desk.close("RoomTest");
    }
}
