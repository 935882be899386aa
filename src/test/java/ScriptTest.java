/** Promises 24 and 25: runScript, simulate. */
public final class ScriptTest {
    public static void main(String[] args) {
        commands();
        sequences();
        copies();
        thinness();
        scriptRefusals();
        turns();
        deletions();
        bounds();
        Check.end();
    }

    private static ChunkCarriers three() {
        ChunkCarriers x = Check.desk(2, "acbb,ddhh,acddac");
        for (int s = 0; s < 3; s++) x.backup(s);
        return x;
    }

    private static void commands() {
        ChunkCarriers x = three();
        succeed(x, 1000, 1200, 2000, 2200, 3000);
        fail(x, 1300, 1900, 1001, 1010, 2300, 2800, 2900, 2201, 2210, 3100, 3001, 3010);
        succeed(x, 4002, 4009, 4102, 4108, 4201, 4209, 4301, 4399, 4401, 4404);
        fail(x, 4001, 4010, 4101, 4109, 4200, 4210, 4300, 4400, 4405, 4502, 4902);
        succeed(x, 5002, 5003, 5099, 6001, 6202, 6299, 7004, 7003, 7000, 8000, 8099);
        fail(x, 5001, 5000, 5102, 6000, 6201, 6399, 6899, 6999, 7005, 7099, 7104, 8100, 8900);
        fail(x, 0, 1, 100, 999, 9000, 9999);
    }

    private static void succeed(ChunkCarriers x, int... groups) {
        for (int group : groups) Check.due("24 runScript(1, " + group + ")", () -> x.runScript(1, group), -1);
    }

    private static void fail(ChunkCarriers x, int... groups) {
        for (int group : groups) Check.due("24 runScript(1, " + group + ")", () -> x.runScript(1, group), 0);
    }

    private static void sequences() {
        ChunkCarriers x = three();
        Check.due("24 2200 2000 7002", () -> x.runScript(3, 220020007002L), -1);
        Check.due("24 2200 2000 7003", () -> x.runScript(3, 220020007003L), 2);
        Check.due("24 2200 2200 7000", () -> x.runScript(3, 220022007000L), 1);
        Check.due("24 2200 1200 6202", () -> x.runScript(3, 220012006202L), -1);
        Check.due("24 4401 6203 6202", () -> x.runScript(3, 440162036202L), 2);
        Check.due("24 zeros before it", () -> x.runScript(2, 1000L), 0);
        Check.due("24 zeros before it, of three", () -> x.runScript(3, 10003000L), 0);
        Check.due("24 1000 0000", () -> x.runScript(2, 10000000L), 1);
        Check.due("24 1000 3000", () -> x.runScript(2, 10003000L), -1);
        x.backup(0);
        x.backup(0);
        x.backup(0);
        Check.due("24 8 backups", () -> x.runScript(3, 100010001000L), 2);
        Check.due("24 8 backups, one deleted", () -> x.runScript(3, 100020001000L), -1);
        x.clearText();
        Check.due("24 backup(0) of no text", () -> x.runScript(2, 30001000L), 1);
        ChunkCarriers y = Many.full();
        Check.write(y, Many.stream(48, 49) + "," + Many.stream(0, 1));
        Check.due("24 24 containers", () -> y.runScript(2, 11001000L), 1);
    }

    private static void copies() {
        ChunkCarriers x = three();
        x.runScript(3, 200021002200L);
        x.runScript(2, 43993000L);
        x.runScript(1, 1000);
        Check.due("24 the backups stay", () -> x.about(1), 3);
        Check.due("24 the living stay", () -> x.about(3), 4);
        Check.due("24 the thinness stays", () -> x.setting(3), 50);
        // The divisor 7 cuts acddac into acddac, which is not there yet.
        Check.due("24 cut by the divisor of the copy", () -> x.runScript(3, 400712005002L), 2);
        Check.due("24 three containers then", () -> x.runScript(3, 400712005003L), -1);
        Check.due("24 no action", x::undo, 3);
    }

    private static void thinness() {
        ChunkCarriers x = three();
        // Without the backup 0, ac alone lives in container 0.
        Check.due("24 one is thin", () -> x.runScript(3, 200043518000L), 2);
        Check.due("24 at most one is thin", () -> x.runScript(3, 200043518001L), -1);
        x.delete(0);
        x.set(3, 51);
        Check.due("24 3000 8000", () -> x.runScript(2, 30008000L), -1);
        Check.due("24 3000 5001", () -> x.runScript(2, 30005001L), 1);
        Check.due("24 3000 5002", () -> x.runScript(2, 30005002L), -1);
        Check.due("24 nothing is carried", () -> x.about(9), 0);
    }

    private static void scriptRefusals() {
        ChunkCarriers x = three();
        Check.noArgument("24 runScript(0, 0)", () -> x.runScript(0, 0));
        Check.noArgument("24 runScript(4, 0)", () -> x.runScript(4, 0));
        Check.noArgument("24 runScript(-1, 0)", () -> x.runScript(-1, 0));
        Check.noArgument("24 runScript(1, -1)", () -> x.runScript(1, -1));
        Check.noArgument("24 runScript(3, least long)", () -> x.runScript(3, Long.MIN_VALUE));
        Check.noArgument("24 runScript(3, greatest long)", () -> x.runScript(3, Long.MAX_VALUE));
        Check.due("24 runScript(1, 9999)", () -> x.runScript(1, 9999), 0);
        Check.noArgument("24 runScript(1, 10000)", () -> x.runScript(1, 10000));
        Check.due("24 runScript(2, 99999999)", () -> x.runScript(2, 99999999), 0);
        Check.noArgument("24 runScript(2, 100000000)", () -> x.runScript(2, 100000000));
        Check.due("24 runScript(3, 999999999999)", () -> x.runScript(3, 999999999999L), 0);
        Check.noArgument("24 runScript(3, 1000000000000)", () -> x.runScript(3, 1000000000000L));
    }

    /**
     * Of the seed 0 the turns are: backup of hhggdhaaacbc (hh ggdh aaac bc), carry, the deletion
     * of 2, backup of egfgaecbcdba (eg fga ec bcdba). Of the seed -1: carry, backup of
     * hgcfchcdbaac (hgcfch cdbaac).
     */
    private static void turns() {
        ChunkCarriers x = new ChunkCarriers();
        Check.due("25 simulate(0, 1)", () -> x.simulate(0, 1), 1004);
        Check.due("25 simulate(0, 2)", () -> x.simulate(0, 2), 1004);
        Check.due("25 simulate(0, 3)", () -> x.simulate(0, 3), 1004);
        Check.due("25 simulate(0, 4)", () -> x.simulate(0, 4), 2008);
        Check.due("25 simulate(-1, 1)", () -> x.simulate(-1, 1), 0);
        Check.due("25 simulate(-1, 2)", () -> x.simulate(-1, 2), 1002);
        x.set(1, 2);
        Check.due("25 simulate(0, 1), capacity 2", () -> x.simulate(0, 1), 2004);
        Check.due("25 simulate(0, 4), capacity 2", () -> x.simulate(0, 4), 4008);
        Check.due("25 nothing is changed", () -> x.about(0), 0);
        Check.due("25 no action", x::undo, 0);
        Check.write(x, "hhggdhaaacbc,hhggd");
        x.backup(0);
        Check.due("25 the stream is there", () -> x.simulate(0, 1), 1004);
        Check.due("25 the text stays", x::errorPosition, -1);
        Check.due("25 the chunks of the text are its own", () -> x.chunk(1, 1, 0), 3);
    }

    /**
     * Of the seed 359 the turns are: the deletion of 0 (r % 8 is 2), carry; of the seed 34: the
     * deletion of 0 (r % 8 is 1); of the seed 10: the deletion of 4.
     */
    private static void deletions() {
        ChunkCarriers x = Check.desk(2, "acbb,dd");
        x.backup(0);
        x.backup(1);
        Check.due("25 simulate(359, 1)", () -> x.simulate(359, 1), 2001);
        Check.due("25 simulate(359, 2)", () -> x.simulate(359, 2), 1001);
        Check.due("25 simulate(34, 1)", () -> x.simulate(34, 1), 2001);
        Check.due("25 simulate(10, 1), 4 is not there", () -> x.simulate(10, 1), 2003);
        x.backup(0);
        Check.due("25 a backup whose entries live on", () -> x.simulate(34, 1), 2003);
        Check.due("25 backups", () -> x.about(1), 3);
    }

    private static void bounds() {
        ChunkCarriers x = Check.desk(2, "ac");
        for (int b = 0; b < 8; b++) x.backup(0);
        Check.due("25 8 backups", () -> x.simulate(0, 1), 1001);
        ChunkCarriers y = Many.full();
        Check.due("25 24 containers", () -> y.simulate(-1, 2), 24048);
        y.set(3, 100);
        y.delete(3);
        // 21 containers stay; by the divisor 2 the stream is hgc fchcdb aa c, and aa has a home.
        Check.due("25 24 containers, room by carrying", () -> y.simulate(-1, 2), 23043);
        Check.noArgument("25 simulate(0, 0)", () -> x.simulate(0, 0));
        Check.noArgument("25 simulate(0, 41)", () -> x.simulate(0, 41));
        Check.noArgument("25 simulate(0, -1)", () -> x.simulate(0, -1));
        Check.due("25 simulate(3, 40)", () -> x.simulate(3, 40) > 0 ? 1 : 0, 1);
        Check.due("25 simulate(least long, 1) is simulate(0, 1) but for the highest bit",
            () -> new ChunkCarriers().simulate(Long.MIN_VALUE, 1), 1004);
    }
}
