import java.util.ArrayList;
import java.util.List;

/** Unlike chunks for the divisor 2, and desks that are full of them. */
final class Many {
    private Many() {
    }

    /** 32 chunks of two letters with an even sum, then chunks of three that are cut behind the third. */
    static List<String> chunks() {
        List<String> chunks = new ArrayList<>();
        for (int x = 0; x < 8; x++) {
            for (int y = x % 2; y < 8; y += 2) chunks.add("" + (char) ('a' + x) + (char) ('a' + y));
        }
        for (int x = 0; x < 8; x++) {
            for (int y = 1 - x % 2; y < 8; y += 2) {
                for (int z = y % 2; z < 8; z += 2) {
                    chunks.add("" + (char) ('a' + x) + (char) ('a' + y) + (char) ('a' + z));
                }
            }
        }
        return chunks;
    }

    static String stream(int from, int to) {
        return String.join("", chunks().subList(from, to));
    }

    /** 24 full containers of 2, with four backups; chunk 48 and those behind it are not there. */
    static ChunkCarriers full() {
        ChunkCarriers x = new ChunkCarriers();
        x.set(0, 2);
        x.set(1, 2);
        Check.backUp(x, stream(0, 15) + "," + stream(15, 30) + "," + stream(30, 40) + "," + stream(40, 48));
        return x;
    }

    /**
     * Containers 0 to 6 of 8 entries, the last of them not living, and container 7 of 7 living
     * ones; 8 backups. The capacity is 2 then, the thinness 100: all but container 7 are thin.
     */
    static ChunkCarriers thin() {
        ChunkCarriers x = new ChunkCarriers();
        x.set(0, 2);
        x.set(1, 8);
        for (int c = 0; c < 8; c++) {
            Check.write(x, stream(8 * c, 8 * c + 7) + "," + stream(8 * c + 7, 8 * c + 8));
            x.backup(0);
            if (c < 7) x.delete(x.backup(1));
        }
        x.set(1, 2);
        x.set(3, 100);
        return x;
    }
}
