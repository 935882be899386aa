/** Promises 26 and 27: save, restore. */
public final class SlotTest {
    public static void main(String[] args) {
        ChunkCarriers x = Check.desk(2, "acbb,ddhh");
        empty(x);
        slots(x);
        wholeState();
        Check.end();
    }

    private static void empty(ChunkCarriers x) {
        Check.noState("27 restore(0), nothing saved", () -> x.restore(0));
        Check.noState("27 restore(1), nothing saved", () -> x.restore(1));
        Check.noIndex("27 restore(-1)", () -> x.restore(-1));
        Check.noIndex("27 restore(2)", () -> x.restore(2));
        Check.noIndex("26 save(-1)", () -> x.save(-1));
        Check.noIndex("26 save(2)", () -> x.save(2));
        Check.noIndex("26 save(least int)", () -> x.save(Integer.MIN_VALUE));
        Check.due("27 what is refused forgets nothing", x::undo, 0);
        Check.due("26 save(1) of nothing", () -> x.save(1), 0);
        Check.noState("27 restore(0), the other is saved", () -> x.restore(0));
    }

    private static void slots(ChunkCarriers x) {
        x.set(1, 2);
        x.backup(0);
        Check.due("26 save(0)", () -> x.save(0), 1);
        Check.due("26 save is no action", x::undo, 1);
        Check.due("26 the slot stays as it is", () -> x.about(1), 0);
        x.backup(1);
        x.backup(1);
        Check.due("27 restore(0)", () -> x.restore(0), 1);
        Check.same("27 its references", Check.references(x, 0), "0.0 0.1");
        Check.same("27 its letters", Check.letters(x, 0), "acbb");
        Check.noState("27 all states are forgotten", x::undo);
        Check.due("27 the text stays", x::errorPosition, -1);
        x.backup(1);
        Check.due("27 remembered again", x::undo, 0);
        x.backup(1);
        x.delete(0);
        Check.due("27 the slot keeps it", () -> x.restore(0), 1);
        Check.same("27 its references again", Check.references(x, 0), "0.0 0.1");
        Check.due("27 restore(1)", () -> x.restore(1), 0);
        Check.due("27 containers of the other slot", () -> x.about(0), 0);
        Check.due("27 capacity of the other slot", () -> x.setting(1), 4);
        x.backup(0);
        x.backup(1);
        Check.due("26 save over it", () -> x.save(1), 2);
        x.delete(0);
        x.delete(1);
        Check.due("27 the newer one", () -> x.restore(1), 2);
    }

    private static void wholeState() {
        ChunkCarriers x = Check.desk(2, "acbb,ac,ddhh,ff");
        for (int s = 0; s < 4; s++) x.backup(s);
        x.delete(0);
        x.set(3, 60);
        x.carry();
        x.set(4, 4);
        int[] before = new int[10];
        for (int k = 0; k < 10; k++) before[k] = x.about(k);
        x.save(0);
        for (int b = 1; b < 4; b++) x.delete(b);
        x.set(3, 100);
        x.carry();
        Check.backUp(x, "cebf,agag");
        x.set(4, 1);
        x.restore(0);
        for (int k = 0; k < 10; k++) {
            int what = k;
            Check.due("27 about(" + what + ")", () -> x.about(what), before[what]);
        }
        Check.due("27 carried forward", () -> x.about(9), 1);
        Check.due("27 the thinness", () -> x.setting(3), 60);
        Check.due("27 the store", () -> x.setting(4), 4);
        Check.same("27 references", Check.references(x, 1), "2.1");
    }
}
