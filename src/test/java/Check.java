/** What the tests share: answers that are due, exceptions that are due, texts. */
final class Check {
    private static int checked;
    private static int wrong;

    interface Call {
        int answer();
    }

    private Check() {
    }

    /** The call must answer so; the label begins with the number of the promise. */
    static void due(String label, Call call, int due) {
        checked++;
        String got = outcome(call);
        if (!got.equals(Integer.toString(due))) tell(label, got, Integer.toString(due));
    }

    /** The call must throw just this exception, not one of a class below it. */
    static void refused(String label, Call call, Class<? extends RuntimeException> due) {
        checked++;
        String got = outcome(call);
        if (!got.equals(due.getName())) tell(label, got, due.getName());
    }

    static void noIndex(String label, Call call) {
        refused(label, call, IndexOutOfBoundsException.class);
    }

    static void noArgument(String label, Call call) {
        refused(label, call, IllegalArgumentException.class);
    }

    static void noState(String label, Call call) {
        refused(label, call, IllegalStateException.class);
    }

    /** Puts a text in the place of the one that was there. */
    static void write(ChunkCarriers x, String text) {
        x.clearText();
        for (int i = 0; i < text.length(); i++) x.append(text.charAt(i));
    }

    /** A new object with these containers' capacity and this text. */
    static ChunkCarriers desk(int capacity, String text) {
        ChunkCarriers x = new ChunkCarriers();
        x.set(1, capacity);
        write(x, text);
        return x;
    }

    /** Writes a text and backs up all of its streams. */
    static void backUp(ChunkCarriers x, String text) {
        write(x, text);
        int streams = text.split(",").length;
        for (int s = 0; s < streams; s++) x.backup(s);
    }

    static String letters(ChunkCarriers x, int b) {
        StringBuilder s = new StringBuilder();
        for (int i = 0; x.letter(b, i) != ChunkCarriers.NONE; i++) s.append((char) x.letter(b, i));
        return s.toString();
    }

    /** The references of a backup: container.entry container.entry .. */
    static String references(ChunkCarriers x, int b) {
        StringBuilder s = new StringBuilder();
        for (int i = 0; x.reference(b, i, 0) != ChunkCarriers.NONE; i++) {
            if (i > 0) s.append(' ');
            s.append(x.reference(b, i, 0)).append('.').append(x.reference(b, i, 1));
        }
        return s.toString();
    }

    static void same(String label, String got, String due) {
        checked++;
        if (!got.equals(due)) tell(label, got, due);
    }

    static void end() {
        System.out.println(checked + " checks, " + wrong + " wrong");
        if (wrong != 0) System.exit(1);
    }

    private static String outcome(Call call) {
        try {
            return Integer.toString(call.answer());
        } catch (RuntimeException e) {
            return e.getClass().getName();
        }
    }

    private static void tell(String label, String got, String due) {
        wrong++;
        System.out.println(label + ": answered " + got + ", due is " + due);
    }
}
