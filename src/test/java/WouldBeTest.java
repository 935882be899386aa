/** Promises 19 to 23: ifDeleted, ifCarried, wouldPut, bestLimit, worst. */
public final class WouldBeTest {
    public static void main(String[] args) {
        ifDeleted();
        ifCarried();
        ifCarriedToFewerLoads();
        wouldPut();
        bestLimit();
        bestLimitOfNine();
        worst();
        Check.end();
    }

    private static void ifDeleted() {
        ChunkCarriers x = Check.desk(2, "acbb,ddhh,acddac");
        Check.noIndex("19 ifDeleted(0) without backups", () -> x.ifDeleted(0));
        for (int s = 0; s < 3; s++) x.backup(s);
        Check.due("19 ifDeleted(0)", () -> x.ifDeleted(0), 1);
        Check.due("19 ifDeleted(1)", () -> x.ifDeleted(1), 1);
        Check.due("19 ifDeleted(2)", () -> x.ifDeleted(2), 0);
        Check.due("19 nothing is changed", () -> x.about(1), 3);
        x.delete(0);
        Check.due("19 an entry with two references dies once", () -> x.ifDeleted(2), 1);
        x.delete(1);
        Check.due("19 the last backup", () -> x.ifDeleted(2), 2);
        Check.noIndex("19 ifDeleted(0)", () -> x.ifDeleted(0));
        Check.noIndex("19 ifDeleted(-1)", () -> x.ifDeleted(-1));
        Check.noIndex("19 ifDeleted(8)", () -> x.ifDeleted(8));
    }

    private static void ifCarried() {
        ChunkCarriers x = Check.desk(4, "acbb,ddhh,ffag,bfce");
        Check.due("20 ifCarried(0) of nothing", () -> x.ifCarried(0), 0);
        Check.due("20 ifCarried(1) of nothing", () -> x.ifCarried(1), 0);
        for (int s = 0; s < 4; s++) x.backup(s);
        Check.backUp(x, "eg");
        x.delete(0);
        x.delete(2);
        Check.due("20 nothing is thin", () -> x.ifCarried(0), 0);
        x.set(3, 51);
        Check.due("20 nine entries, five then", () -> x.ifCarried(0), 4);
        Check.due("20 three loads, four then", () -> x.ifCarried(1), -1);
        Check.due("20 nothing is changed", () -> x.about(2), 9);
        Check.due("20 nothing is carried", () -> x.about(9), 0);
        Check.noArgument("20 ifCarried(-1)", () -> x.ifCarried(-1));
        Check.noArgument("20 ifCarried(2)", () -> x.ifCarried(2));
        x.carry();
        Check.due("20 as it was told", () -> x.about(2), 5);
    }

    private static void ifCarriedToFewerLoads() {
        ChunkCarriers x = Check.desk(2, "acbb,ddhh,acdd,ff");
        for (int s = 0; s < 3; s++) x.backup(s);
        x.set(1, 4);
        x.backup(3);
        x.delete(0);
        x.delete(1);
        x.set(3, 51);
        Check.due("20 five entries, three then", () -> x.ifCarried(0), 2);
        Check.due("20 three loads, two then", () -> x.ifCarried(1), 1);
    }

    private static void wouldPut() {
        ChunkCarriers x = Check.desk(2, "acacbb,acdd,ddacac");
        Check.due("21 a chunk that stands twice is put away once", () -> x.wouldPut(0), 2);
        x.backup(0);
        Check.due("21 with a home", () -> x.wouldPut(1), 1);
        Check.due("21 all have homes", () -> x.wouldPut(0), 0);
        x.backup(1);
        x.set(2, 1);
        Check.due("21 by the limit", () -> x.wouldPut(2), 1);
        Check.due("21 nothing is changed", () -> x.about(2), 3);
        Check.noIndex("21 wouldPut(3)", () -> x.wouldPut(3));
        Check.noIndex("21 wouldPut(-1)", () -> x.wouldPut(-1));
        for (int b = 2; b < 8; b++) x.backup(0);
        Check.noState("21 there are 8 backups", () -> x.backup(2));
        Check.due("21 with 8 backups", () -> x.wouldPut(2), 1);
        x.clearText();
        Check.noIndex("21 wouldPut(0) of no text", () -> x.wouldPut(0));
        ChunkCarriers y = Many.full();
        Check.write(y, Many.stream(48, 58));
        Check.due("21 past 24 containers", () -> y.wouldPut(0), 10);
    }

    private static void bestLimit() {
        // Costs by limit: 2 + 2, 1 + 3, 0 + 3.
        ChunkCarriers x = Check.desk(2, "acbb,ddhh,ffag,acddff");
        for (int s = 0; s < 3; s++) x.backup(s);
        Check.due("22 bestLimit(3)", () -> x.bestLimit(3), 3);
        x.set(2, 1);
        Check.due("22 whatever the limit is", () -> x.bestLimit(3), 3);
        Check.due("22 the setting stays", () -> x.setting(2), 1);
        Check.due("22 no backup is made", () -> x.about(1), 3);
        Check.noIndex("22 bestLimit(4)", () -> x.bestLimit(4));
        Check.noIndex("22 bestLimit(-1)", () -> x.bestLimit(-1));
        // With a store of 2 both 1 and 2 cost 2; with a store of 1 the limit 2 costs 5.
        ChunkCarriers y = Check.desk(4, "acbbhhag,dd,ddacddacdd,cece");
        Check.due("22 without homes", () -> y.bestLimit(2), 1);
        y.backup(0);
        y.backup(1);
        Check.due("22 of several the smallest", () -> y.bestLimit(2), 1);
        y.set(4, 1);
        Check.due("22 with a store of 1", () -> y.bestLimit(2), 1);
        Check.due("22 no home at all", () -> y.bestLimit(3), 1);
        // With a store of 1: 1 + 4, 0 + 4.
        ChunkCarriers z = Check.desk(2, "acbb,ddhh,acddacdd");
        z.set(4, 1);
        z.backup(0);
        z.backup(1);
        Check.due("22 two containers", () -> z.bestLimit(2), 2);
        for (int b = 2; b < 8; b++) z.backup(0);
        Check.due("22 with 8 backups", () -> z.bestLimit(2), 2);
        z.clearText();
        Check.noIndex("22 bestLimit(0) of no text", () -> z.bestLimit(0));
    }

    /** Nine chunks in nine containers cost 9 with the limit 9, 10 with 8 and 7, and so on. */
    private static void bestLimitOfNine() {
        ChunkCarriers x = new ChunkCarriers();
        x.set(0, 2);
        x.set(1, 2);
        StringBuilder nine = new StringBuilder();
        for (int i = 0; i < 18; i += 2) nine.append(Many.stream(i, i + 1));
        Check.write(x, Many.stream(0, 15) + "," + Many.stream(15, 18) + "," + nine);
        x.backup(0);
        x.backup(1);
        Check.due("22 nine containers", () -> x.bestLimit(2), 9);
        ChunkCarriers y = Many.full();
        Check.write(y, nine.toString());
        Check.due("22 with 24 containers", () -> y.bestLimit(0), 9);
    }

    private static void worst() {
        ChunkCarriers x = Check.desk(2, "acbb,ddhh,acddac,ddacdd");
        Check.due("23 without backups", x::worst, -1);
        x.backup(0);
        x.backup(1);
        Check.due("23 like ones", x::worst, 0);
        x.backup(2);
        Check.due("23 two loads", x::worst, 2);
        x.backup(3);
        Check.due("23 of several the lowest", x::worst, 2);
        x.delete(2);
        Check.due("23 the other one", x::worst, 3);
        Check.backUp(x, "acddacdd");
        Check.due("23 with a store of 2", x::worst, 2);
        x.delete(2);
        Check.backUp(x, "bb");
        x.set(4, 1);
        Check.due("23 with a store of 1", x::worst, 3);
        Check.backUp(x, "acddacdd");
        Check.due("23 four loads", x::worst, 4);
        for (int b = 0; b < 5; b++) x.delete(b);
        Check.due("23 all deleted", x::worst, -1);
    }
}
