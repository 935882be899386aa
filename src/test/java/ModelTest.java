import java.util.ArrayList;
import java.util.List;

/** Long runs of calls, ordinary ones and wrong ones, on the program and on the model. */
public final class ModelTest {
    private static final int RUNS = 1500;
    private static final int CALLS = 512;
    private static final String[] PIECES = {
        "ac", "bb", "dd", "hh", "ff", "ag", "bf", "ce", "dh", "eg", "ca", "aab", "abcdefgh", "aaaaaa", "gg", "h", "a",
    };

    private static final int[] EXTREMES = {
        Integer.MIN_VALUE, Integer.MIN_VALUE + 1, -65536, 65536, 1 << 30, Integer.MAX_VALUE - 1, Integer.MAX_VALUE,
    };

    private static long x;
    private static int wrong;
    private static int mostContainers;
    private static int mostEntries;

    private interface Call {
        int answer();
    }

    public static void main(String[] args) {
        for (int run = 0; run < RUNS && wrong < 10; run++) oneRun(run);
        System.out.println("most containers " + mostContainers + ", most entries " + mostEntries);
        if (mostContainers <= 24) {
            System.out.println("no run had more than 24 containers");
            wrong++;
        }
        if (wrong != 0) System.exit(1);
    }

    private static int below(int bound) {
        x = x * 6364136223846793005L + 1442695040888963407L;
        return (int) ((x >>> 33) % bound);
    }

    private static String outcome(Call call) {
        try {
            return Integer.toString(call.answer());
        } catch (IndexOutOfBoundsException | IllegalArgumentException | IllegalStateException e) {
            return e.getClass().getName();
        }
    }

    private static final class Run {
        final int number;
        final ChunkCarriers real = new ChunkCarriers();
        final Model model = new Model();
        final List<String> calls = new ArrayList<>();
        int used;
        boolean bad;

        Run(int number) {
            this.number = number;
        }

        void compare(String call, Call ofReal, Call ofModel) {
            if (bad || used >= CALLS) return;
            used++;
            String got = outcome(ofReal);
            String due = outcome(ofModel);
            calls.add(call + " = " + due);
            if (got.equals(due)) return;
            bad = true;
            wrong++;
            System.out.println("run " + number + ": " + String.join("; ", calls));
            System.out.println("  the last one answered " + got + ", due is " + due);
        }
    }

    private static void oneRun(int number) {
        x = 1000 + number;
        Run run = new Run(number);
        // Some runs press on one side: small capacities, much thinness, many containers.
        int kind = number % 5;
        if (kind == 1) set(run, 1, 8);
        if (kind == 2) set(run, 3, 100);
        if (kind == 3) {
            set(run, 1, 2);
            set(run, 2, 1);
        }
        if (kind == 4) crowd(run);
        else write(run);
        while (!run.bad && run.used < CALLS) step(run, kind);
    }

    /** Fills large containers, with one text cut in many ways, and carries them into small ones. */
    private static void crowd(Run run) {
        for (int i = 0; i < 119; i++) append(run, i % 30 == 29 ? ',' : 'a' + below(8));
        set(run, 1, 8);
        set(run, 3, 100);
        int turns = 40 + below(50);
        for (int i = 0; i < turns; i++) {
            int b = below(8);
            int s = below(4);
            set(run, 0, 2 + below(8));
            if (below(6) == 0) set(run, 2, 1 + below(2));
            run.compare("delete(" + b + ")", () -> run.real.delete(b), () -> run.model.delete(b));
            run.compare("backup(" + s + ")", () -> run.real.backup(s), () -> run.model.backup(s));
        }
        for (int b = 0; b < 8; b++) {
            int s = b % 4;
            set(run, 0, 2 + below(8));
            run.compare("backup(" + s + ")", () -> run.real.backup(s), () -> run.model.backup(s));
        }
        set(run, 1, 2);
        run.compare("ifCarried(1)", () -> run.real.ifCarried(1), () -> run.model.ifCarried(1));
        run.compare("carry()", run.real::carry, run.model::carry);
        most(run);
    }

    private static void most(Run run) {
        mostContainers = Math.max(mostContainers, run.model.about(0));
        mostEntries = Math.max(mostEntries, run.model.about(2));
    }

    private static void set(Run run, int what, int v) {
        run.compare("set(" + what + ", " + v + ")", () -> run.real.set(what, v), () -> run.model.set(what, v));
    }

    /** Writes a new text, mostly of streams. */
    private static void write(Run run) {
        run.compare("clearText()", run.real::clearText, run.model::clearText);
        StringBuilder text = new StringBuilder();
        int streams = 1 + below(4);
        int longest = below(3) == 0 ? 30 : 14;
        for (int s = 0; s < streams; s++) {
            if (s > 0) text.append(',');
            StringBuilder stream = new StringBuilder();
            int pieces = 1 + below(longest / 2);
            for (int p = 0; p < pieces; p++) stream.append(PIECES[below(PIECES.length)]);
            if (stream.length() > longest && below(20) != 0) stream.setLength(longest);
            text.append(stream);
        }
        if (below(25) == 0) text.insert(below(text.length() + 1), (char) below(256));
        for (int i = 0; i < text.length(); i++) append(run, text.charAt(i));
        run.compare("errorPosition()", run.real::errorPosition, run.model::errorPosition);
    }

    private static void append(Run run, int c) {
        run.compare("append(" + c + ")", () -> run.real.append(c), () -> run.model.append(c));
    }

    private static void step(Run run, int kind) {
        int turn = below(100);
        if (turn < 3) write(run);
        else if (turn < 30) act(run, kind);
        else if (turn < 40) what(run);
        else look(run);
        if (run.used == CALLS - 40) all(run);
        most(run);
    }

    /** Mostly a number below the bound, seldom one beside it or far from it. */
    private static int about(int bound) {
        if (below(150) == 0) return EXTREMES[below(EXTREMES.length)];
        return below(15) == 0 ? below(2 * bound + 8) - 4 : below(bound);
    }

    private static void act(Run run, int kind) {
        int b = about(8);
        int s = about(4);
        int slot = about(2);
        int what = about(5);
        int[][] ranges = {{2, 9}, {2, 8}, {1, 9}, {1, 100}, {1, 4}};
        int[] range = ranges[Math.floorMod(what, 5)];
        int v = range[0] + about(range[1] - range[0] + 1);
        int turn = below(100);
        if (turn < 52) run.compare("backup(" + s + ")", () -> run.real.backup(s), () -> run.model.backup(s));
        else if (turn < 75) run.compare("delete(" + b + ")", () -> run.real.delete(b), () -> run.model.delete(b));
        else if (turn < (kind == 1 ? 78 : 84)) run.compare("carry()", run.real::carry, run.model::carry);
        else if (turn < 90) set(run, what, v);
        else if (turn < 96) run.compare("undo()", run.real::undo, run.model::undo);
        else if (turn < 98) run.compare("save(" + slot + ")", () -> run.real.save(slot), () -> run.model.save(slot));
        else run.compare("restore(" + slot + ")", () -> run.real.restore(slot), () -> run.model.restore(slot));
    }

    private static void what(Run run) {
        int b = about(8);
        int s = about(4);
        int k = about(2);
        int n = about(3) + 1;
        long seed = x;
        int m = about(40) + 1;
        long script = script(n);
        switch (below(7)) {
            case 0: run.compare("ifDeleted(" + b + ")", () -> run.real.ifDeleted(b), () -> run.model.ifDeleted(b)); break;
            case 1: run.compare("ifCarried(" + k + ")", () -> run.real.ifCarried(k), () -> run.model.ifCarried(k)); break;
            case 2: run.compare("wouldPut(" + s + ")", () -> run.real.wouldPut(s), () -> run.model.wouldPut(s)); break;
            case 3: run.compare("bestLimit(" + s + ")", () -> run.real.bestLimit(s), () -> run.model.bestLimit(s)); break;
            case 4: run.compare("worst()", run.real::worst, run.model::worst); break;
            case 5:
                run.compare("runScript(" + n + ", " + script + ")",
                    () -> run.real.runScript(n, script), () -> run.model.runScript(n, script));
                break;
            default:
                run.compare("simulate(" + seed + ", " + m + ")",
                    () -> run.real.simulate(seed, m), () -> run.model.simulate(seed, m));
        }
    }

    private static long script(int n) {
        if (below(20) == 0) return x >> below(60);
        long script = 0;
        for (int i = 0; i < Math.min(n, 4); i++) script = script * 10000 + group();
        return script;
    }

    private static int group() {
        if (below(10) == 0) return below(10000);
        int kind = 1 + below(8);
        int second = kind == 3 || kind == 5 || kind >= 7 ? 0 : below(8);
        int number = kind <= 3 ? 0 : below(below(2) == 0 ? 10 : 40);
        if (below(15) == 0) number = below(100);
        return 1000 * kind + 100 * second + number;
    }

    private static void look(Run run) {
        int b = about(8);
        int s = about(4);
        int c = about(Math.max(1, run.model.about(8)));
        int e = about(4);
        int i = about(12);
        int place = about(30);
        int k = about(10);
        int four = about(4);
        int five = about(5);
        int two = about(2);
        switch (below(8)) {
            case 0:
                run.compare("chunk(" + s + ", " + i + ", " + four + ")",
                    () -> run.real.chunk(s, i, four), () -> run.model.chunk(s, i, four));
                break;
            case 1: run.compare("about(" + k + ")", () -> run.real.about(k), () -> run.model.about(k)); break;
            case 2:
                run.compare("container(" + place + ")", () -> run.real.container(place), () -> run.model.container(place));
                break;
            case 3:
                run.compare("containerOf(" + c + ", " + five + ")",
                    () -> run.real.containerOf(c, five), () -> run.model.containerOf(c, five));
                break;
            case 4:
                run.compare("entry(" + c + ", " + e + ", " + four + ")",
                    () -> run.real.entry(c, e, four), () -> run.model.entry(c, e, four));
                break;
            case 5:
                run.compare("backupOf(" + b + ", " + five + ")",
                    () -> run.real.backupOf(b, five), () -> run.model.backupOf(b, five));
                break;
            case 6:
                run.compare("reference(" + b + ", " + i + ", " + two + ")",
                    () -> run.real.reference(b, i, two), () -> run.model.reference(b, i, two));
                break;
            default:
                run.compare("letter(" + b + ", " + i + ")", () -> run.real.letter(b, i), () -> run.model.letter(b, i));
        }
    }

    /** Looks at the whole of the state, as far as 40 calls go. */
    private static void all(Run run) {
        for (int k = 0; k < 10; k++) {
            int what = k;
            run.compare("about(" + what + ")", () -> run.real.about(what), () -> run.model.about(what));
        }
        for (int k = 0; k < 24; k++) {
            int b = k / 3;
            int what = 2 + k % 3;
            run.compare("backupOf(" + b + ", " + what + ")",
                () -> run.real.backupOf(b, what), () -> run.model.backupOf(b, what));
        }
    }
}
