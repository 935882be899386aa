/**
 * Rows as full as runs of 512 calls were found to fill them: 192 entries in 24 containers, and 51
 * containers that carrying forward makes of them. All calls that use the rows are made there, on
 * the program and on the model.
 */
public final class FullTest {
    private static final String TEXT = "bfhhccfdgdgeceefcdaagdgbfbbaad,aagffdhdfhbfceaebfbdgbddghhcaa,"
        + "fffeabeacceabfdfdhbhbbfdbdddah,begddbhacabeaggbeadfeefhgeh";

    /** Found by trying: a divisor, a limit, the backup that is deleted, the stream that is backed up. */
    private static final int[] TURNS = {
        4253, 2132, 2123, 2170, 2562, 2860, 2111, 2173, 2103, 2132, 2160, 2411, 6152, 2111, 2122, 2153, 2172, 2311,
        2102, 2601, 3160, 2160, 2611, 2151, 5110, 2572, 2112, 2112, 2160, 2151, 2162, 2150,
    };

    private static boolean missed;

    public static void main(String[] args) {
        lookAtEntries();
        lookAtStreams();
        lookAtWhatWouldBe();
        changeAndTakeBack();
        lookAtManyContainers();
        lookAtReferences();
        carryAgain();
        if (missed || Twin.wrong() != 0) System.exit(1);
    }

    /** 24 containers of 8; each has living entries, and all but the last have one that is not. */
    private static Twin full(String name) {
        Twin twin = new Twin(name);
        for (char c : TEXT.toCharArray()) twin.append(c);
        twin.set(1, 8);
        twin.set(3, 100);
        for (int turn : TURNS) {
            setIfOther(twin, 0, turn / 1000);
            setIfOther(twin, 2, turn / 100 % 10);
            twin.delete(turn / 10 % 10);
            twin.backup(turn % 10);
        }
        holds(name, twin, 24, 192);
        return twin;
    }

    /** Container 23, and behind it 50 of two for the entries that lived in the thin ones. */
    private static Twin crowded(String name) {
        Twin twin = full(name);
        twin.set(1, 2);
        twin.carry();
        holds(name, twin, 51, 108);
        return twin;
    }

    private static void holds(String name, Twin twin, int containers, int entries) {
        if (twin.bad || twin.model.about(0) == containers && twin.model.about(2) == entries) return;
        System.out.println(name + ": " + twin.model.about(0) + " containers, " + twin.model.about(2) + " entries");
        missed = true;
    }

    private static void setIfOther(Twin twin, int what, int v) {
        if (twin.model.setting(what) != v) twin.set(what, v);
    }

    /** What lies behind the last call would not be looked at. */
    private static void end(Twin twin) {
        if (twin.bad || twin.used < Twin.MOST_CALLS) return;
        System.out.println("too many calls on one object");
        missed = true;
    }

    private static void lookAtAll(Twin twin) {
        for (int what = 0; what < 10; what++) twin.about(what);
    }

    private static void lookAtContainers(Twin twin, int first, int last) {
        for (int i = 0; i < last - first + 2; i++) twin.container(i);
        for (int c = first; c <= last + 1; c++) {
            for (int what = 2; what < 5; what++) twin.containerOf(c, what);
        }
    }

    private static void lookAtBackups(Twin twin) {
        for (int b = 0; b < 8; b++) {
            for (int what = 0; what < 5; what++) twin.backupOf(b, what);
        }
        twin.worst();
    }

    private static void lookAtEntries() {
        Twin twin = full("the entries");
        lookAtAll(twin);
        lookAtContainers(twin, 0, 23);
        for (int c = 0; c < 24; c++) {
            twin.entry(c, 7, 2);
            twin.entry(c, 8, 2);
        }
        for (int b = 0; b < 8; b++) {
            for (int i = 25; i < 31; i++) twin.letter(b, i);
        }
        end(twin);
    }

    private static void lookAtStreams() {
        Twin twin = full("the streams");
        for (int s = 0; s < 4; s++) {
            for (int i = 0; i < 16; i++) {
                twin.chunk(s, i, 2);
                twin.chunk(s, i, 3);
            }
            twin.wouldPut(s);
            twin.bestLimit(s);
        }
        lookAtBackups(twin);
        end(twin);
    }

    private static void lookAtWhatWouldBe() {
        Twin twin = full("what would be");
        for (int b = 0; b < 8; b++) twin.ifDeleted(b);
        for (int v = 1; v < 9; v++) {
            twin.set(1, v);
            twin.ifCarried(0);
            twin.ifCarried(1);
            for (int seed = 0; seed < 4; seed++) twin.simulate(seed, 10 * v);
            twin.runScript(3, 300050005000L + 10000 * (50 + v) + 8000);
            twin.runScript(3, 430130005000L + 24);
            twin.runScript(3, 200014011000L + v % 4 * 100);
        }
        end(twin);
    }

    private static void changeAndTakeBack() {
        Twin twin = full("changes");
        twin.save(0);
        twin.set(3, 1);
        twin.carry();
        lookAtAll(twin);
        for (int limit = 1; limit < 10; limit += 4) {
            twin.set(2, limit);
            for (int s = 0; s < 4; s++) {
                twin.delete(s);
                twin.backup(s);
                twin.carry();
            }
            lookAtAll(twin);
        }
        takeBackAll(twin);
        twin.restore(0);
        lookAtAll(twin);
        lookAtBackups(twin);
        end(twin);
    }

    /** One more than are remembered at most. */
    private static void takeBackAll(Twin twin) {
        for (int i = 0; i < 15; i++) {
            twin.undo();
            twin.about(0);
            twin.about(2);
            twin.about(3);
        }
    }

    private static void lookAtManyContainers() {
        Twin twin = crowded("many containers");
        lookAtAll(twin);
        lookAtContainers(twin, 23, 73);
        end(twin);
    }

    private static void lookAtReferences() {
        Twin twin = crowded("the references");
        for (int b = 0; b < 8; b++) {
            for (int i = 0; i < 16; i++) {
                twin.reference(b, i, 0);
                twin.reference(b, i, 1);
            }
        }
        end(twin);
    }

    private static void carryAgain() {
        Twin twin = crowded("carrying again");
        lookAtBackups(twin);
        for (int s = 0; s < 4; s++) {
            twin.backup(s);
            twin.wouldPut(s);
            twin.bestLimit(s);
        }
        for (int b = 0; b < 8; b++) {
            twin.carry();
            twin.ifDeleted(b);
            twin.delete(b);
            twin.ifCarried(0);
            twin.ifCarried(1);
            twin.simulate(b, 40);
            lookAtAll(twin);
        }
        takeBackAll(twin);
        end(twin);
    }
}
