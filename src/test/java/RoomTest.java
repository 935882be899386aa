import java.lang.management.ManagementFactory;

/**
 * What a run of 512 calls makes: all calls of a run share one room, so calls use their rows
 * again, and make nothing but the states that are remembered or saved for the first time.
 */
public final class RoomTest {
    private static final long MOST_BYTES_OF_A_NEW_OBJECT = 40_000;
    private static final long MOST_BYTES_OF_A_RUN = 200_000;

    public static void main(String[] args) {
        run(new ChunkCarriers());
        long start = allocated();
        ChunkCarriers x = new ChunkCarriers();
        long made = allocated() - start;
        run(x);
        long all = allocated() - start;
        System.out.println("a new object: " + made + " bytes, with a run of calls: " + all);
        if (made > MOST_BYTES_OF_A_NEW_OBJECT || all > MOST_BYTES_OF_A_RUN) {
            System.out.println("too many");
            System.exit(1);
        }
    }

    private static long allocated() {
        return ((com.sun.management.ThreadMXBean) ManagementFactory.getThreadMXBean()).getCurrentThreadAllocatedBytes();
    }

    private static void run(ChunkCarriers x) {
        String text = "acbbddhhffagbfceacddaceg,abcdefghhgfedcba,ddacddac";
        for (int i = 0; i < text.length(); i++) x.append(text.charAt(i));
        for (int i = 0; i < 40; i++) {
            x.backup(i % 3);
            x.simulate(i, 40);
            x.runScript(3, 100030004309L);
            x.ifCarried(1);
            x.bestLimit(i % 3);
            x.save(i % 2);
            x.carry();
            x.delete(i % 2);
            if (i % 10 == 0) x.restore(i % 2);
            x.set(0, 2 + i % 8);
            if (i > 4) x.delete(x.backup(1));
        }
    }
}
