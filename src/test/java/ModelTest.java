/** Long runs of calls, ordinary ones and wrong ones, on the program and on the model. */
public final class ModelTest {
    private static final int RUNS = 1500;
    private static final int CALLS = Twin.MOST_CALLS;
    private static final String[] PIECES = {
        "ac", "bb", "dd", "hh", "ff", "ag", "bf", "ce", "dh", "eg", "ca", "aab", "abcdefgh", "aaaaaa", "gg", "h", "a",
    };

    private static final int[] EXTREMES = {
        Integer.MIN_VALUE, Integer.MIN_VALUE + 1, -65536, 65536, 1 << 30, Integer.MAX_VALUE - 1, Integer.MAX_VALUE,
    };

    private static long x;
    private static int mostContainers;
    private static int mostEntries;

    public static void main(String[] args) {
        for (int run = 0; run < RUNS && Twin.wrong() < 10; run++) oneRun(run);
        System.out.println("most containers " + mostContainers + ", most entries " + mostEntries);
        if (mostContainers <= 24) {
            System.out.println("no run had more than 24 containers");
            System.exit(1);
        }
        if (Twin.wrong() != 0) System.exit(1);
    }

    private static int below(int bound) {
        x = x * 6364136223846793005L + 1442695040888963407L;
        return (int) ((x >>> 33) % bound);
    }

    private static void oneRun(int number) {
        x = 1000 + number;
        Twin run = new Twin("run " + number);
        // Some runs press on one side: small capacities, much thinness, many containers.
        int kind = number % 5;
        if (kind == 1) run.set(1, 8);
        if (kind == 2) run.set(3, 100);
        if (kind == 3) {
            run.set(1, 2);
            run.set(2, 1);
        }
        if (kind == 4) crowd(run);
        else write(run);
        while (!run.bad && run.used < CALLS) step(run, kind);
    }

    /** Fills large containers, with one text cut in many ways, and carries them into small ones. */
    private static void crowd(Twin run) {
        for (int i = 0; i < 119; i++) run.append(i % 30 == 29 ? ',' : 'a' + below(8));
        run.set(1, 8);
        run.set(3, 100);
        int turns = 40 + below(50);
        for (int i = 0; i < turns; i++) {
            int b = below(8);
            int s = below(4);
            run.set(0, 2 + below(8));
            if (below(6) == 0) run.set(2, 1 + below(2));
            run.delete(b);
            run.backup(s);
        }
        for (int b = 0; b < 8; b++) {
            int s = b % 4;
            run.set(0, 2 + below(8));
            run.backup(s);
        }
        run.set(1, 2);
        run.ifCarried(1);
        run.carry();
        most(run);
    }

    private static void most(Twin run) {
        mostContainers = Math.max(mostContainers, run.model.about(0));
        mostEntries = Math.max(mostEntries, run.model.about(2));
    }

    /** Writes a new text, mostly of streams. */
    private static void write(Twin run) {
        run.clearText();
        StringBuilder text = new StringBuilder();
        int streams = 1 + below(4);
        int longest = below(3) == 0 ? 30 : 14;
        for (int s = 0; s < streams; s++) {
            if (s > 0) text.append(',');
            StringBuilder stream = new StringBuilder();
            int pieces = 1 + below(longest / 2);
            for (int p = 0; p < pieces; p++) stream.append(PIECES[below(PIECES.length)]);
            if (stream.length() > longest && below(20) != 0) stream.setLength(longest);
            text.append(stream);
        }
        if (below(25) == 0) text.insert(below(text.length() + 1), (char) below(256));
        for (int i = 0; i < text.length(); i++) run.append(text.charAt(i));
        run.errorPosition();
    }

    private static void step(Twin run, int kind) {
        int turn = below(100);
        if (turn < 3) write(run);
        else if (turn < 30) act(run, kind);
        else if (turn < 40) what(run);
        else look(run);
        if (run.used == CALLS - 40) all(run);
        most(run);
    }

    /** Mostly a number below the bound, seldom one beside it or far from it. */
    private static int about(int bound) {
        if (below(150) == 0) return EXTREMES[below(EXTREMES.length)];
        return below(15) == 0 ? below(2 * bound + 8) - 4 : below(bound);
    }

    private static void act(Twin run, int kind) {
        int b = about(8);
        int s = about(4);
        int slot = about(2);
        int what = about(5);
        int[][] ranges = {{2, 9}, {2, 8}, {1, 9}, {1, 100}, {1, 4}};
        int[] range = ranges[Math.floorMod(what, 5)];
        int v = range[0] + about(range[1] - range[0] + 1);
        int turn = below(100);
        if (turn < 52) run.backup(s);
        else if (turn < 75) run.delete(b);
        else if (turn < (kind == 1 ? 78 : 84)) run.carry();
        else if (turn < 90) run.set(what, v);
        else if (turn < 96) run.undo();
        else if (turn < 98) run.save(slot);
        else run.restore(slot);
    }

    private static void what(Twin run) {
        int b = about(8);
        int s = about(4);
        int k = about(2);
        int n = about(3) + 1;
        long seed = x;
        int m = about(40) + 1;
        long script = script(n);
        switch (below(7)) {
            case 0: run.ifDeleted(b); break;
            case 1: run.ifCarried(k); break;
            case 2: run.wouldPut(s); break;
            case 3: run.bestLimit(s); break;
            case 4: run.worst(); break;
            case 5: run.runScript(n, script); break;
            default: run.simulate(seed, m);
        }
    }

    private static long script(int n) {
        if (below(20) == 0) return x >> below(60);
        long script = 0;
        for (int i = 0; i < Math.min(n, 4); i++) script = script * 10000 + group();
        return script;
    }

    private static int group() {
        if (below(10) == 0) return below(10000);
        int kind = 1 + below(8);
        int second = kind == 3 || kind == 5 || kind >= 7 ? 0 : below(8);
        int number = kind <= 3 ? 0 : below(below(2) == 0 ? 10 : 40);
        if (below(15) == 0) number = below(100);
        return 1000 * kind + 100 * second + number;
    }

    private static void look(Twin run) {
        int b = about(8);
        int s = about(4);
        int c = about(Math.max(1, run.model.about(8)));
        int e = about(4);
        int i = about(12);
        int place = about(30);
        int k = about(10);
        int four = about(4);
        int five = about(5);
        int two = about(2);
        switch (below(8)) {
            case 0: run.chunk(s, i, four); break;
            case 1: run.about(k); break;
            case 2: run.container(place); break;
            case 3: run.containerOf(c, five); break;
            case 4: run.entry(c, e, four); break;
            case 5: run.backupOf(b, five); break;
            case 6: run.reference(b, i, two); break;
            default: run.letter(b, i);
        }
    }

    /** Looks at the whole of the state, as far as 40 calls go. */
    private static void all(Twin run) {
        for (int what = 0; what < 10; what++) run.about(what);
        for (int what = 0; what < 5; what++) run.setting(what);
        for (int b = 0; b < 8; b++) {
            for (int what = 2; what < 5; what++) run.backupOf(b, what);
        }
    }
}
