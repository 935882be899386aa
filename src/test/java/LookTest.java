/** Promises 6 to 13: about, container, containerOf, entry, backupOf, reference, letter, setting. */
public final class LookTest {
    public static void main(String[] args) {
        // Container 0: ac bb; container 1: dd hh; the backup 2 refers to 0.0 1.0 0.0.
        ChunkCarriers x = Check.desk(2, "acbb,ddhh,acddac");
        for (int s = 0; s < 3; s++) x.backup(s);
        about(x, 2, 3, 4, 4, 4, 0, 7, 8, 2, 0);
        entries(x);
        restoring(x);
        references(x);
        letters(x);
        containers(x);
        thinness();
        unlike();
        settings();
        refusals(x);
        Check.end();
    }

    private static void about(ChunkCarriers x, int... due) {
        for (int k = 0; k < 10; k++) {
            int what = k;
            Check.due("6 about(" + what + ")", () -> x.about(what), due[what]);
        }
    }

    private static void entries(ChunkCarriers x) {
        entry(x, 0, 0, 2, 779, 3, 'a');
        entry(x, 0, 1, 2, 809, 1, 'b');
        entry(x, 1, 0, 2, 873, 2, 'd');
        entry(x, 1, 1, 2, 4, 1, 'h');
        ChunkCarriers y = Check.desk(2, "aaaaaaahg");
        y.backup(0);
        entry(y, 0, 0, 6, 896, 1, 'a');
        entry(y, 0, 1, 3, 383, 1, 'a');
        y.delete(0);
        entry(y, 0, 0, 6, 896, 0, 'a');
    }

    private static void entry(ChunkCarriers x, int c, int e, int... due) {
        for (int k = 0; k < 4; k++) {
            int what = k;
            Check.due("9 entry(" + c + ", " + e + ", " + what + ")", () -> x.entry(c, e, what), due[what]);
        }
    }

    private static void backupOf(ChunkCarriers x, int b, int... due) {
        for (int k = 0; k < 5; k++) {
            int what = k;
            Check.due("10 backupOf(" + b + ", " + what + ")", () -> x.backupOf(b, what), due[what]);
        }
    }

    private static void restoring(ChunkCarriers x) {
        backupOf(x, 0, 2, 4, 1, 1, 0);
        backupOf(x, 1, 2, 4, 1, 1, 0);
        backupOf(x, 2, 3, 6, 2, 2, 2);
        x.set(4, 1);
        backupOf(x, 2, 3, 6, 2, 3, 2);
        x.undo();
        // One chunk in each container: a store of 2 loads 0 1 0 2 0 1, as 0 was used behind 1.
        ChunkCarriers y = Check.desk(2, "acdd,bbff,hhce,acbbachhacbb");
        for (int s = 0; s < 4; s++) y.backup(s);
        Check.same("10 containers of backup 3", Check.references(y, 3), "0.0 1.0 0.0 2.0 0.0 1.0");
        backupOf(y, 3, 6, 12, 3, 4, 5);
        y.set(4, 3);
        backupOf(y, 3, 6, 12, 3, 3, 5);
        y.set(4, 1);
        backupOf(y, 3, 6, 12, 3, 6, 5);
    }

    private static void references(ChunkCarriers x) {
        Check.same("11 references of 0", Check.references(x, 0), "0.0 0.1");
        Check.same("11 references of 1", Check.references(x, 1), "1.0 1.1");
        Check.same("11 references of 2", Check.references(x, 2), "0.0 1.0 0.0");
        Check.due("11 reference(2, 3, 0)", () -> x.reference(2, 3, 0), -1);
        Check.due("11 reference(2, 3, 1)", () -> x.reference(2, 3, 1), -1);
        Check.due("11 reference(0, 15, 0)", () -> x.reference(0, 15, 0), -1);
        Check.due("11 reference(0, greatest int, 1)", () -> x.reference(0, Integer.MAX_VALUE, 1), -1);
    }

    private static void letters(ChunkCarriers x) {
        Check.same("12 letters of 0", Check.letters(x, 0), "acbb");
        Check.same("12 letters of 2", Check.letters(x, 2), "acddac");
        Check.due("12 letter(2, 6)", () -> x.letter(2, 6), -1);
        Check.due("12 letter(2, greatest int)", () -> x.letter(2, Integer.MAX_VALUE), -1);
        ChunkCarriers y = Check.desk(3, "abcdefghhgfedcbaabcdefghabcdef");
        y.backup(0);
        Check.same("12 thirty letters", Check.letters(y, 0), "abcdefghhgfedcbaabcdefghabcdef");
        y.clearText();
        y.set(0, 9);
        Check.same("12 letters without the text", Check.letters(y, 0), "abcdefghhgfedcbaabcdefghabcdef");
    }

    private static void containers(ChunkCarriers x) {
        Check.due("7 container(0)", () -> x.container(0), 0);
        Check.due("7 container(1)", () -> x.container(1), 1);
        Check.due("7 container(2)", () -> x.container(2), -1);
        Check.due("7 container(greatest int)", () -> x.container(Integer.MAX_VALUE), -1);
        containerOf(x, 0, 2, 2, 2, 0, 2);
        containerOf(x, 1, 2, 2, 2, 0, 2);
        x.set(1, 8);
        x.delete(0);
        containerOf(x, 0, 2, 2, 1, 0, 1);
        Check.due("6 living of all", () -> x.about(3), 3);
        x.undo();
        x.undo();
    }

    private static void containerOf(ChunkCarriers x, int c, int... due) {
        for (int k = 0; k < 5; k++) {
            int what = k;
            Check.due("8 containerOf(" + c + ", " + what + ")", () -> x.containerOf(c, what), due[what]);
        }
    }

    private static void thinness() {
        ChunkCarriers x = Check.desk(2, "acbb,ac,dd");
        for (int s = 0; s < 3; s++) x.backup(s);
        x.delete(0);
        // One living entry of two: 100 is not less than 50 * 2.
        Check.due("8 not thin at 50", () -> x.containerOf(0, 3), 0);
        x.set(3, 51);
        Check.due("8 thin at 51", () -> x.containerOf(0, 3), 1);
        Check.due("6 thin at 51", () -> x.about(5), 1);
        x.delete(1);
        x.set(3, 1);
        Check.due("8 thin without a living entry", () -> x.containerOf(0, 3), 1);
        x.delete(2);
        Check.due("8 the greatest number is never thin", () -> x.containerOf(1, 3), 0);
        Check.due("6 thin at 1", () -> x.about(5), 1);
        Check.due("6 living", () -> x.about(3), 0);
    }

    private static void unlike() {
        ChunkCarriers x = Check.desk(2, "acbb,ddhh,acddhh");
        x.set(2, 1);
        for (int s = 0; s < 3; s++) x.backup(s);
        Check.same("6 ac is put away twice", Check.references(x, 2), "2.0 1.0 1.1");
        about(x, 3, 3, 5, 5, 4, 0, 7, 10, 3, 0);
        // A single a, and chunks that begin with it, are unlike.
        ChunkCarriers y = Check.desk(8, "a,aa,aaa");
        for (int s = 0; s < 3; s++) y.backup(s);
        about(y, 1, 3, 3, 3, 3, 0, 3, 6, 1, 0);
    }

    private static void settings() {
        ChunkCarriers x = new ChunkCarriers();
        int[] due = {4, 4, 3, 50, 2};
        for (int k = 0; k < 5; k++) {
            int what = k;
            Check.due("13 setting(" + what + ")", () -> x.setting(what), due[what]);
        }
        x.set(3, 100);
        Check.due("13 setting(3) that was changed", () -> x.setting(3), 100);
        Check.noArgument("13 setting(-1)", () -> x.setting(-1));
        Check.noArgument("13 setting(5)", () -> x.setting(5));
    }

    private static void refusals(ChunkCarriers x) {
        Check.noArgument("6 about(-1)", () -> x.about(-1));
        Check.noArgument("6 about(10)", () -> x.about(10));
        Check.noArgument("7 container(-1)", () -> x.container(-1));
        Check.noIndex("8 containerOf(2, 0)", () -> x.containerOf(2, 0));
        Check.noIndex("8 containerOf(-1, 9)", () -> x.containerOf(-1, 9));
        Check.noArgument("8 containerOf(1, -1)", () -> x.containerOf(1, -1));
        Check.noArgument("8 containerOf(1, 5)", () -> x.containerOf(1, 5));
        Check.noIndex("9 entry(2, 0, 0)", () -> x.entry(2, 0, 0));
        Check.noIndex("9 entry(0, 2, 9)", () -> x.entry(0, 2, 9));
        Check.noIndex("9 entry(0, -1, 0)", () -> x.entry(0, -1, 0));
        Check.noIndex("9 entry(0, greatest int, 0)", () -> x.entry(0, Integer.MAX_VALUE, 0));
        Check.noArgument("9 entry(1, 1, -1)", () -> x.entry(1, 1, -1));
        Check.noArgument("9 entry(1, 1, 4)", () -> x.entry(1, 1, 4));
        Check.noIndex("10 backupOf(3, 9)", () -> x.backupOf(3, 9));
        Check.noIndex("10 backupOf(-1, 0)", () -> x.backupOf(-1, 0));
        Check.noIndex("10 backupOf(8, 0)", () -> x.backupOf(8, 0));
        Check.noArgument("10 backupOf(0, -1)", () -> x.backupOf(0, -1));
        Check.noArgument("10 backupOf(0, 5)", () -> x.backupOf(0, 5));
        Check.noIndex("11 reference(3, -1, 9)", () -> x.reference(3, -1, 9));
        Check.noArgument("11 reference(0, -1, 0)", () -> x.reference(0, -1, 0));
        Check.noArgument("11 reference(0, 99, 2)", () -> x.reference(0, 99, 2));
        Check.noArgument("11 reference(0, 0, -1)", () -> x.reference(0, 0, -1));
        Check.noIndex("12 letter(8, -1)", () -> x.letter(8, -1));
        Check.noArgument("12 letter(0, -1)", () -> x.letter(0, -1));
        x.delete(1);
        Check.noIndex("10 backupOf(1, 0) of a deleted one", () -> x.backupOf(1, 0));
        Check.noIndex("12 letter(1, 0) of a deleted one", () -> x.letter(1, 0));
    }
}
