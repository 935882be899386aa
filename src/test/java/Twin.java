import java.util.ArrayList;
import java.util.List;

/** The program and the model, on which the same calls are made: their answers must be the same. */
final class Twin {
    static final int MOST_CALLS = 512;

    private static int wrong;

    final ChunkCarriers real = new ChunkCarriers();
    final Model model = new Model();
    int used;
    boolean bad;
    private final String name;
    private final List<String> calls = new ArrayList<>();

    private interface Call {
        int answer();
    }

    Twin(String name) {
        this.name = name;
    }

    /** How many twins have answered unlike so far. */
    static int wrong() {
        return wrong;
    }

    /** Makes a call on both, unless they answered unlike before or have no calls left. */
    private void compare(String call, Call ofReal, Call ofModel) {
        if (bad || used >= MOST_CALLS) return;
        used++;
        String got = outcome(ofReal);
        String due = outcome(ofModel);
        calls.add(call + " = " + due);
        if (got.equals(due)) return;
        bad = true;
        wrong++;
        System.out.println(name + ": " + String.join("; ", calls));
        System.out.println("  the last one answered " + got + ", due is " + due);
    }

    void append(int c) {
        compare("append(" + c + ")", () -> real.append(c), () -> model.append(c));
    }

    void clearText() {
        compare("clearText()", real::clearText, model::clearText);
    }

    void errorPosition() {
        compare("errorPosition()", real::errorPosition, model::errorPosition);
    }

    void setting(int what) {
        compare("setting(" + what + ")", () -> real.setting(what), () -> model.setting(what));
    }

    void set(int what, int v) {
        compare("set(" + what + ", " + v + ")", () -> real.set(what, v), () -> model.set(what, v));
    }

    void backup(int s) {
        compare("backup(" + s + ")", () -> real.backup(s), () -> model.backup(s));
    }

    void delete(int b) {
        compare("delete(" + b + ")", () -> real.delete(b), () -> model.delete(b));
    }

    void carry() {
        compare("carry()", real::carry, model::carry);
    }

    void undo() {
        compare("undo()", real::undo, model::undo);
    }

    void about(int what) {
        compare("about(" + what + ")", () -> real.about(what), () -> model.about(what));
    }

    void container(int i) {
        compare("container(" + i + ")", () -> real.container(i), () -> model.container(i));
    }

    void containerOf(int c, int what) {
        compare("containerOf(" + c + ", " + what + ")",
            () -> real.containerOf(c, what), () -> model.containerOf(c, what));
    }

    void entry(int c, int e, int what) {
        compare("entry(" + c + ", " + e + ", " + what + ")",
            () -> real.entry(c, e, what), () -> model.entry(c, e, what));
    }

    void backupOf(int b, int what) {
        compare("backupOf(" + b + ", " + what + ")",
            () -> real.backupOf(b, what), () -> model.backupOf(b, what));
    }

    void reference(int b, int i, int what) {
        compare("reference(" + b + ", " + i + ", " + what + ")",
            () -> real.reference(b, i, what), () -> model.reference(b, i, what));
    }

    void letter(int b, int i) {
        compare("letter(" + b + ", " + i + ")", () -> real.letter(b, i), () -> model.letter(b, i));
    }

    void chunk(int s, int i, int what) {
        compare("chunk(" + s + ", " + i + ", " + what + ")",
            () -> real.chunk(s, i, what), () -> model.chunk(s, i, what));
    }

    void ifDeleted(int b) {
        compare("ifDeleted(" + b + ")", () -> real.ifDeleted(b), () -> model.ifDeleted(b));
    }

    void ifCarried(int what) {
        compare("ifCarried(" + what + ")", () -> real.ifCarried(what), () -> model.ifCarried(what));
    }

    void wouldPut(int s) {
        compare("wouldPut(" + s + ")", () -> real.wouldPut(s), () -> model.wouldPut(s));
    }

    void bestLimit(int s) {
        compare("bestLimit(" + s + ")", () -> real.bestLimit(s), () -> model.bestLimit(s));
    }

    void worst() {
        compare("worst()", real::worst, model::worst);
    }

    void runScript(int n, long script) {
        compare("runScript(" + n + ", " + script + ")",
            () -> real.runScript(n, script), () -> model.runScript(n, script));
    }

    void simulate(long seed, int m) {
        compare("simulate(" + seed + ", " + m + ")",
            () -> real.simulate(seed, m), () -> model.simulate(seed, m));
    }

    void save(int slot) {
        compare("save(" + slot + ")", () -> real.save(slot), () -> model.save(slot));
    }

    void restore(int slot) {
        compare("restore(" + slot + ")", () -> real.restore(slot), () -> model.restore(slot));
    }

    private static String outcome(Call call) {
        try {
            return Integer.toString(call.answer());
        } catch (IndexOutOfBoundsException | IllegalArgumentException | IllegalStateException e) {
            return e.getClass().getName();
        }
    }
}
