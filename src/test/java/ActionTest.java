/** Promises 14 to 18: backup, delete, carry, set, undo. */
public final class ActionTest {
    public static void main(String[] args) {
        backup();
        limit();
        backupNumbers();
        containersBehindABackup();
        moreContainersByCarrying();
        backupRefusals();
        delete();
        carry();
        carryAnew();
        carryInAnyCase();
        set();
        undo();
        undoOfAll();
        undoOfCarrying();
        noActions();
        Check.end();
    }

    private static void backup() {
        ChunkCarriers x = Check.desk(2, "acacbb,acdd,ddbb,hhac");
        Check.due("14 backup(0)", () -> x.backup(0), 0);
        Check.same("14 a chunk put away before", Check.references(x, 0), "0.0 0.0 0.1");
        Check.due("14 backup(1)", () -> x.backup(1), 1);
        Check.same("14 a home, and a new container", Check.references(x, 1), "0.0 1.0");
        Check.due("14 backup(2)", () -> x.backup(2), 2);
        Check.same("14 homes only", Check.references(x, 2), "1.0 0.1");
        Check.due("14 containers", () -> x.about(0), 2);
        Check.due("14 keeps the text", x::clearText, 21);
        Check.write(x, "hhac");
        Check.due("14 backup of hhac", () -> x.backup(0), 3);
        Check.same("14 room in the last container", Check.references(x, 3), "1.1 0.0");
        for (int b = 0; b < 4; b++) x.delete(b);
        Check.due("14 backup where nothing lives", () -> x.backup(0), 0);
        Check.same("14 a home that does not live", Check.references(x, 0), "1.1 0.0");
        x.set(1, 3);
        Check.backUp(x, "ffagbf");
        Check.due("14 capacity of a new container", () -> x.containerOf(2, 0), 3);
        Check.same("14 three in the new container", Check.references(x, 1), "2.0 2.1 2.2");
    }

    private static void limit() {
        ChunkCarriers x = Check.desk(2, "acbb,ddhh,ffag,acddff");
        x.set(2, 2);
        for (int s = 0; s < 4; s++) x.backup(s);
        Check.same("14 of like ones the greater numbers", Check.references(x, 3), "3.0 1.0 2.0");
        ChunkCarriers y = Check.desk(2, "acbb,ddhh,acacdd,bbacddbbhh");
        y.set(2, 1);
        for (int s = 0; s < 4; s++) y.backup(s);
        Check.same("14 as often as it stands there", Check.references(y, 2), "0.0 0.0 2.0");
        // Homes: bb and ac in 0, three chunks; hh in 1; dd in 2.
        Check.same("14 most chunks", Check.references(y, 3), "0.1 0.0 2.1 0.1 3.0");
        ChunkCarriers z = Check.desk(2, "acbb,ddhh,acddhh,acbbbb");
        z.set(2, 1);
        for (int s = 0; s < 4; s++) z.backup(s);
        Check.same("14 the home that most have", Check.references(z, 2), "2.0 1.0 1.1");
        // ac had its home in 2, not in 0, which stays and has it too.
        Check.same("14 no home though it is there", Check.references(z, 3), "2.1 0.1 0.1");
        Check.backUp(z, "acac");
        Check.same("14 the first entry that has it", Check.references(z, 4), "2.0 2.0");
        ChunkCarriers w = Check.desk(2, "acbb,ddhh,ffag,acddff");
        for (int s = 0; s < 4; s++) w.backup(s);
        Check.same("14 as many homes as the limit", Check.references(w, 3), "0.0 1.0 2.0");
    }

    private static void backupNumbers() {
        ChunkCarriers x = Check.desk(2, "ac");
        for (int b = 0; b < 8; b++) {
            int due = b;
            Check.due("14 backup number " + b, () -> x.backup(0), due);
        }
        Check.noState("14 a ninth backup", () -> x.backup(0));
        Check.noIndex("14 a ninth backup, of no stream", () -> x.backup(1));
        x.delete(5);
        x.delete(2);
        Check.due("14 the lowest number that is free", () -> x.backup(0), 2);
        Check.due("14 the other one", () -> x.backup(0), 5);
        Check.due("14 references to one entry", () -> x.entry(0, 0, 2), 8);
    }

    private static void containersBehindABackup() {
        ChunkCarriers x = Many.full();
        Check.due("14 24 containers", () -> x.about(0), 24);
        Check.due("14 48 entries", () -> x.about(2), 48);
        Check.write(x, Many.stream(48, 49) + "," + Many.stream(0, 3));
        Check.noState("14 a container too many", () -> x.backup(0));
        Check.due("14 nothing is changed", () -> x.about(8), 24);
        Check.due("14 none is needed", () -> x.backup(1), 4);
        x.delete(3);
        x.delete(4);
        // Containers 20 to 23 do not live now, 23 has the greatest number.
        Check.due("14 carried away", x::carry, 0);
        Check.due("14 21 containers", () -> x.about(0), 21);
        Check.write(x, Many.stream(48, 55));
        Check.noState("14 four containers for seven chunks", () -> x.backup(0));
        Check.due("14 still 21 containers", () -> x.about(0), 21);
        Check.write(x, Many.stream(48, 54));
        Check.due("14 three containers for six chunks", () -> x.backup(0), 3);
        Check.due("14 24 containers again", () -> x.about(0), 24);
        Check.same("14 their numbers", Check.references(x, 3), "24.0 24.1 25.0 25.1 26.0 26.1");
    }

    private static void moreContainersByCarrying() {
        ChunkCarriers x = Many.thin();
        Check.due("16 seven thin ones", () -> x.about(5), 7);
        Check.due("16 carry()", x::carry, 49);
        Check.due("16 25 containers", () -> x.about(0), 25);
        Check.due("16 entries", () -> x.about(2), 56);
        Check.due("16 living", () -> x.about(3), 56);
        Check.same("16 one into the last, six into new ones", Check.references(x, 0), "7.7 8.0 8.1 9.0 9.1 10.0 10.1");
        Check.same("16 the stream is the same", Check.letters(x, 6), Many.stream(48, 55));
        x.delete(7);
        Check.write(x, Many.stream(1, 7));
        Check.noState("14 more than 24 containers though it makes none", () -> x.backup(0));
        Check.due("14 it would put none away", () -> x.wouldPut(0), 0);
    }

    private static void backupRefusals() {
        ChunkCarriers x = new ChunkCarriers();
        Check.noIndex("14 backup(0) of no text", () -> x.backup(0));
        Check.write(x, "ac,bb");
        Check.noIndex("14 backup(2)", () -> x.backup(2));
        Check.noIndex("14 backup(-1)", () -> x.backup(-1));
        x.append('x');
        Check.noIndex("14 backup(0) of a text that is not streams", () -> x.backup(0));
        Check.noState("14 what is refused is no action", x::undo);
    }

    private static void delete() {
        ChunkCarriers x = Check.desk(2, "acbb,ddhh,acddac");
        for (int s = 0; s < 3; s++) x.backup(s);
        Check.noIndex("15 delete(3)", () -> x.delete(3));
        Check.noIndex("15 delete(-1)", () -> x.delete(-1));
        Check.noIndex("15 delete(8)", () -> x.delete(8));
        Check.due("15 delete(0), ac lives on", () -> x.delete(0), 1);
        Check.noIndex("15 delete(0) again", () -> x.delete(0));
        Check.due("15 references left to ac", () -> x.entry(0, 0, 2), 2);
        Check.due("15 references left to bb", () -> x.entry(0, 1, 2), 0);
        Check.due("15 delete(2), ac dies once", () -> x.delete(2), 1);
        Check.due("15 delete(1)", () -> x.delete(1), 2);
        Check.due("15 containers stay", () -> x.about(0), 2);
        Check.due("15 entries stay", () -> x.about(2), 4);
        Check.due("15 backups", () -> x.about(1), 0);
        Check.due("15 references", () -> x.about(6), 0);
    }

    private static void carry() {
        ChunkCarriers x = Check.desk(4, "acbb,ddhh,ffag,bfce");
        for (int s = 0; s < 4; s++) x.backup(s);
        Check.backUp(x, "eg");
        x.delete(0);
        x.delete(2);
        Check.due("16 none is thin at 50", x::carry, 0);
        x.set(3, 51);
        Check.due("16 two are thin at 51", x::carry, 4);
        Check.due("16 the first that stays", () -> x.container(0), 2);
        Check.due("16 the new one", () -> x.container(1), 3);
        Check.due("16 no other", () -> x.container(2), -1);
        Check.noIndex("16 a container that is gone", () -> x.containerOf(0, 1));
        Check.same("16 references of 1", Check.references(x, 1), "2.1 2.2");
        Check.same("16 references of 3", Check.references(x, 3), "2.3 3.0");
        Check.same("16 references of 4", Check.references(x, 4), "2.0");
        Check.same("16 letters of 3", Check.letters(x, 3), "bfce");
        Check.due("16 references to an entry put away anew", () -> x.entry(3, 0, 2), 1);
        Check.due("16 the next number", () -> x.about(8), 4);
        Check.due("16 carried forward so far", () -> x.about(9), 4);
        x.delete(4);
        x.set(3, 100);
        Check.due("16 three more", x::carry, 3);
        Check.due("16 carried forward in all", () -> x.about(9), 7);
        Check.same("16 order of the entries", Check.references(x, 1) + ", " + Check.references(x, 3), "3.1 3.2, 3.3 3.0");
    }

    private static void carryAnew() {
        ChunkCarriers x = Check.desk(2, "acbb,ddhh,ac,acddhh");
        x.set(2, 1);
        for (int s = 0; s < 4; s++) x.backup(s);
        Check.same("16 ac stands in 2 too", Check.references(x, 3), "2.0 1.0 1.1");
        x.backup(2);
        x.delete(0);
        x.set(3, 51);
        Check.due("16 put away whether there is another one", x::carry, 1);
        Check.same("16 the other one is not used", Check.references(x, 2), "2.1");
        Check.same("16 nor is the reference to it changed", Check.references(x, 4), "2.0");
        ChunkCarriers y = Check.desk(2, "acbb,acac,ac,dd");
        for (int s = 0; s < 4; s++) y.backup(s);
        y.delete(0);
        y.set(3, 60);
        Check.due("16 one entry of two backups", y::carry, 1);
        Check.same("16 all backups follow", Check.references(y, 1) + ", " + Check.references(y, 2), "1.1 1.1, 1.1");
        Check.due("16 three references to it", () -> y.entry(1, 1, 2), 3);
    }

    private static void carryInAnyCase() {
        ChunkCarriers x = Check.desk(2, "acbb,dd");
        x.backup(0);
        x.delete(0);
        x.set(3, 100);
        Check.due("16 the greatest number stays", x::carry, 0);
        Check.due("16 it is there", () -> x.container(0), 0);
        x.backup(1);
        Check.due("16 a container without living entries", x::carry, 0);
        Check.due("16 it is gone", () -> x.container(0), 1);
        x.set(1, 5);
        x.delete(0);
        x.backup(0);
        Check.same("16 the room of the old capacity", Check.references(x, 0), "1.1 2.0");
    }

    private static void set() {
        int[][] ranges = {{2, 9, 4}, {2, 8, 4}, {1, 9, 3}, {1, 100, 50}, {1, 4, 2}};
        for (int k = 0; k < 5; k++) {
            int what = k;
            int[] range = ranges[k];
            ChunkCarriers x = new ChunkCarriers();
            Check.noArgument("17 set below " + what, () -> x.set(what, range[0] - 1));
            Check.noArgument("17 set above " + what, () -> x.set(what, range[1] + 1));
            Check.noState("17 what is refused is no action", x::undo);
            Check.due("17 set least " + what, () -> x.set(what, range[0]), range[2]);
            Check.due("17 set greatest " + what, () -> x.set(what, range[1]), range[0]);
            Check.due("17 setting " + what, () -> x.setting(what), range[1]);
            for (int other = 0; other < 5; other++) {
                int o = other;
                if (o != what) Check.due("17 another setting " + o, () -> x.setting(o), ranges[o][2]);
            }
        }
        ChunkCarriers x = Check.desk(2, "acbb,ddhh");
        Check.noArgument("17 set(-1, 4)", () -> x.set(-1, 4));
        Check.noArgument("17 set(5, 4)", () -> x.set(5, 4));
        Check.noArgument("17 set(0, least int)", () -> x.set(0, Integer.MIN_VALUE));
        Check.noArgument("17 set(greatest int, 4)", () -> x.set(Integer.MAX_VALUE, 4));
        x.backup(0);
        x.set(1, 8);
        x.set(0, 9);
        Check.due("17 containers keep their capacities", () -> x.containerOf(0, 0), 2);
        Check.same("17 backups keep their references", Check.references(x, 0), "0.0 0.1");
        Check.due("17 the same value is an action", () -> x.set(0, 9), 9);
        Check.due("17 taken back", x::undo, 4);
    }

    private static void undo() {
        ChunkCarriers x = new ChunkCarriers();
        for (int v = 1; v <= 15; v++) x.set(3, v);
        for (int left = 13; left >= 0; left--) {
            int due = left;
            Check.due("18 undo, " + left + " left", x::undo, due);
            Check.due("18 the setting before", () -> x.setting(3), left + 1);
        }
        Check.noState("18 none is left", x::undo);
        Check.due("18 the oldest one was forgotten", () -> x.setting(3), 1);
        for (int v = 20; v < 50; v++) x.set(3, v);
        Check.due("18 at most 14", x::undo, 13);
        x.set(3, 9);
        Check.due("18 one more, and back", x::undo, 13);
        Check.due("18 the setting then", () -> x.setting(3), 48);
    }

    private static void undoOfAll() {
        ChunkCarriers x = Check.desk(2, "acbb,ddhh,ff");
        x.backup(0);
        x.backup(1);
        Check.due("18 undo of a backup", x::undo, 2);
        Check.due("18 its containers are gone", () -> x.about(0), 1);
        Check.due("18 the next number as before", () -> x.about(8), 1);
        Check.due("18 the text stays", x::errorPosition, -1);
        x.backup(1);
        x.delete(0);
        Check.due("18 undo of a deletion", x::undo, 3);
        Check.same("18 the references are there", Check.references(x, 0), "0.0 0.1");
        Check.due("18 they count", () -> x.entry(0, 1, 2), 1);
        x.delete(0);
        x.carry();
        Check.due("18 the container is gone", () -> x.container(0), 1);
        Check.due("18 undo of carrying", x::undo, 4);
        Check.due("18 the container is there", () -> x.container(0), 0);
    }

    private static void undoOfCarrying() {
        ChunkCarriers x = Check.desk(2, "acbb,ac,dd");
        for (int s = 0; s < 3; s++) x.backup(s);
        x.delete(0);
        x.set(3, 51);
        Check.due("18 ac is carried forward", x::carry, 1);
        Check.same("18 where it went", Check.references(x, 1), "1.1");
        Check.due("18 undo", x::undo, 6);
        Check.same("18 the reference as before", Check.references(x, 1), "0.0");
        Check.due("18 the entries as before", () -> x.about(2), 3);
        Check.due("18 carried forward as before", () -> x.about(9), 0);
    }

    private static void noActions() {
        ChunkCarriers x = Check.desk(2, "acbb,ddhh");
        x.backup(0);
        x.backup(1);
        x.ifDeleted(0);
        x.ifCarried(0);
        x.wouldPut(0);
        x.bestLimit(0);
        x.worst();
        x.runScript(1, 2000);
        x.simulate(1, 10);
        x.save(0);
        x.chunk(0, 0, 0);
        x.clearText();
        Check.due("18 only actions are remembered", x::undo, 2);
        Check.due("18 the last one was backup(1)", () -> x.about(1), 1);
    }
}
