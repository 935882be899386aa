/** Promises 1 to 5: a new object, append, clearText, errorPosition, chunk. */
public final class TextTest {
    public static void main(String[] args) {
        newObject();
        append();
        clearText();
        errorPosition();
        cutting();
        chunkOnTheDesk();
        chunkRefusals();
        Check.end();
    }

    private static void newObject() {
        ChunkCarriers x = new ChunkCarriers();
        Check.due("1 NONE", () -> ChunkCarriers.NONE, -1);
        for (int k = 0; k < 10; k++) {
            int what = k;
            Check.due("1 about(" + what + ")", () -> x.about(what), 0);
        }
        Check.due("1 container(0)", () -> x.container(0), -1);
        Check.noIndex("1 containerOf(0, 0)", () -> x.containerOf(0, 0));
        Check.noIndex("1 backupOf(0, 0)", () -> x.backupOf(0, 0));
        Check.due("1 worst()", x::worst, -1);
        Check.due("1 carry()", x::carry, 0);
        Check.due("1 undo()", x::undo, 0);
        Check.noState("1 undo(), none remembered", x::undo);
        Check.noState("1 restore(0)", () -> x.restore(0));
        Check.due("1 clearText()", x::clearText, 0);
    }

    private static void append() {
        ChunkCarriers x = new ChunkCarriers();
        Check.due("2 append(a)", () -> x.append('a'), 1);
        Check.due("2 append(0)", () -> x.append(0), 2);
        Check.due("2 append(255)", () -> x.append(255), 3);
        Check.noArgument("2 append(-1)", () -> x.append(-1));
        Check.noArgument("2 append(256)", () -> x.append(256));
        Check.noArgument("2 append(97 + 65536)", () -> x.append(97 + 65536));
        Check.noArgument("2 append(least int)", () -> x.append(Integer.MIN_VALUE));
        for (int n = 4; n <= 120; n++) {
            int due = n;
            Check.due("2 append, number " + n, () -> x.append('b'), due);
        }
        Check.noState("2 append to 120", () -> x.append('b'));
        Check.noArgument("2 append(256) to 120", () -> x.append(256));
        Check.due("3 clearText() of 120", x::clearText, 120);
        Check.due("2 append behind clearText", () -> x.append('a'), 1);
    }

    private static void clearText() {
        ChunkCarriers x = new ChunkCarriers();
        Check.write(x, "abc");
        Check.due("3 clearText() of 3", x::clearText, 3);
        Check.due("3 clearText() again", x::clearText, 0);
        Check.due("3 error position of no text", x::errorPosition, 0);
        Check.write(x, "d");
        Check.due("3 nothing of the old text stays", x::errorPosition, -1);
        Check.noState("3 clearText is no action", x::undo);
    }

    private static void errorPosition() {
        String thirty = "abcdefghabcdefghabcdefghabcdef";
        error("", 0);
        error("a", -1);
        error("h", -1);
        error("i", 0);
        error("`", 0);
        error("A", 0);
        error("\0", 0);
        error("\u00e1", 0);
        error(",", 0);
        error("a,", 2);
        error("a,,b", 2);
        error("a b", 1);
        error("a,b,c,d", -1);
        error("a,b,c,d,", 7);
        error("a,b,c,d,e", 7);
        error("a,b,c,", 6);
        error(thirty, -1);
        error(thirty + "a", 30);
        error(thirty + ",", 31);
        error("a," + thirty + "h", 32);
        error(thirty + "," + thirty + "," + thirty + "," + thirty.substring(3), -1);
    }

    private static void error(String text, int due) {
        ChunkCarriers x = new ChunkCarriers();
        Check.write(x, text);
        Check.due("4 errorPosition of \"" + text + "\"", x::errorPosition, due);
    }

    private static void cutting() {
        ChunkCarriers x = new ChunkCarriers();
        Check.write(x, "acbbaaaaaaahg,h,acabb,aaaaaa");
        lengths(x, 0, 2, 2, 6, 3);
        lengths(x, 1, 1);
        // c and a are in unlike chunks, so they cut nothing.
        lengths(x, 2, 2, 3);
        lengths(x, 3, 6);
        sums(x, 0, 779, 809, 896, 383);
        sums(x, 1, 225);
        x.set(0, 9);
        lengths(x, 0, 6, 6, 1);
        x.set(0, 2);
        lengths(x, 0, 2, 2, 2, 2, 2, 3);
        Check.write(x, "ababababababababababababababab,aaaaaaaaaaaaaaaaaaaaaaaaaaaaaa");
        lengths(x, 0, 6, 6, 6, 6, 6);
        lengths(x, 1, 2, 2, 2, 2, 2, 2, 2, 2, 2, 2, 2, 2, 2, 2, 2);
    }

    private static void lengths(ChunkCarriers x, int s, int... due) {
        for (int k = 0; k < due.length; k++) {
            int i = k;
            Check.due("5 letters of chunk " + i + " of stream " + s, () -> x.chunk(s, i, 0), due[i]);
        }
        for (int what = 0; what < 4; what++) {
            int w = what;
            Check.due("5 no chunk " + due.length + " of stream " + s, () -> x.chunk(s, due.length, w), -1);
        }
    }

    private static void sums(ChunkCarriers x, int s, int... due) {
        for (int k = 0; k < due.length; k++) {
            int i = k;
            Check.due("5 sum of chunk " + i + " of stream " + s, () -> x.chunk(s, i, 1), due[i]);
        }
    }

    private static void chunkOnTheDesk() {
        ChunkCarriers x = Check.desk(2, "acbb,ddhh,acddhh,hhbb");
        Check.due("5 entries of a chunk that is not there", () -> x.chunk(0, 0, 2), 0);
        Check.due("5 home of a chunk that is not there", () -> x.chunk(0, 0, 3), -1);
        x.backup(0);
        x.backup(1);
        x.set(2, 1);
        x.backup(2);
        Check.due("5 entries of ac, in 0 and 2", () -> x.chunk(2, 0, 2), 2);
        Check.due("5 home of ac", () -> x.chunk(2, 0, 3), 2);
        Check.due("5 home of hh", () -> x.chunk(3, 0, 3), 1);
        Check.due("5 home of bb, past the limit", () -> x.chunk(3, 1, 3), 0);
        x.delete(0);
        Check.due("5 home of bb, not living", () -> x.chunk(3, 1, 3), 0);
        Check.due("5 entries of bb, not living", () -> x.chunk(3, 1, 2), 1);
    }

    private static void chunkRefusals() {
        ChunkCarriers x = new ChunkCarriers();
        Check.noIndex("5 chunk of no text", () -> x.chunk(0, 0, 0));
        Check.write(x, "ac,bb");
        Check.noIndex("5 chunk(-1, 0, 0)", () -> x.chunk(-1, 0, 0));
        Check.noIndex("5 chunk(2, 0, 0)", () -> x.chunk(2, 0, 0));
        Check.noIndex("5 chunk(2, -1, 9)", () -> x.chunk(2, -1, 9));
        Check.noIndex("5 chunk(greatest int, 0, 0)", () -> x.chunk(Integer.MAX_VALUE, 0, 0));
        Check.noArgument("5 chunk(1, -1, 0)", () -> x.chunk(1, -1, 0));
        Check.noArgument("5 chunk(1, 0, -1)", () -> x.chunk(1, 0, -1));
        Check.noArgument("5 chunk(1, 0, 4)", () -> x.chunk(1, 0, 4));
        Check.noArgument("5 chunk(1, 99, 4)", () -> x.chunk(1, 99, 4));
        Check.due("5 chunk(1, greatest int, 0)", () -> x.chunk(1, Integer.MAX_VALUE, 0), -1);
        x.append(',');
        Check.noIndex("5 chunk of a text that is not streams", () -> x.chunk(0, 0, 0));
    }
}
