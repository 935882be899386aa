import java.lang.reflect.InvocationTargetException;
import java.lang.reflect.Method;
import java.util.function.IntUnaryOperator;
import java.util.regex.Matcher;
import java.util.regex.Pattern;

/**
 * A run of calls on a new object, told in rows like these:
 *   append(97) = 1            the call answers 1
 *   append(256) ! IllegalArgument    it throws IllegalArgumentException
 *   append(97)                it throws nothing
 *   text acbb,d{30}           clears the text and appends this one, with d thirty times
 *   text (ac){3}              appends ac three times
 *   references 0 = 0.0 1.1    the references of a backup: container.entry
 *   letters 0 = acbb          the letters of a backup
 *   containers = 0 2          the numbers of all containers
 *   note all; all = as noted  everything that can be seen is as it was when it was noted
 * Arguments are numbers, or least and greatest for the bounds of their type.
 */
final class Run {
    private static final int MOST_CALLS = 512;

    private final ChunkCarriers x = new ChunkCarriers();
    private int calls;
    private String noted = "";

    /** What is wrong with the answer of a row, null if nothing is. */
    String fault(String row) {
        int equals = row.indexOf('=');
        int throwing = row.indexOf('!');
        int end = equals >= 0 ? equals : throwing >= 0 ? throwing : row.length();
        String call = row.substring(0, end).strip();
        String due = equals >= 0 ? row.substring(equals + 1).strip() : "";
        if (throwing >= 0) due = row.substring(throwing + 1).strip() + "Exception";
        String got;
        try {
            got = outcome(call);
        } catch (RuntimeException e) {
            return " threw " + e;
        }
        if (calls > MOST_CALLS) return ": a call too many on one object";
        boolean free = equals < 0 && throwing < 0 && !got.endsWith("Exception");
        return free || got.equals(due) ? null : ": answered " + got;
    }

    private String outcome(String row) {
        String[] words = row.split(" ", 2);
        switch (words[0]) {
            case "text": return write(words.length > 1 ? words[1] : "");
            case "references": return references(Integer.parseInt(words[1]));
            case "letters": return letters(Integer.parseInt(words[1]));
            case "containers": return containers();
            case "note": return note();
            case "all": return everything().equals(noted) ? "as noted" : "changed";
            default: return call(row);
        }
    }

    private String call(String row) {
        Matcher m = Pattern.compile("(\\w+)\\((.*)\\)").matcher(row);
        if (!m.matches()) throw new IllegalArgumentException("no call");
        String[] words = m.group(2).isBlank() ? new String[0] : m.group(2).split(",");
        for (Method method : ChunkCarriers.class.getMethods()) {
            if (method.getName().equals(m.group(1)) && method.getParameterCount() == words.length) {
                return invoke(method, words);
            }
        }
        throw new IllegalArgumentException("no such call");
    }

    private String invoke(Method method, String[] words) {
        Object[] arguments = new Object[words.length];
        for (int i = 0; i < words.length; i++) {
            boolean isLong = method.getParameterTypes()[i] == long.class;
            long value = number(words[i].strip(), isLong);
            if (isLong) arguments[i] = value;
            else arguments[i] = Math.toIntExact(value);
        }
        calls++;
        try {
            return method.invoke(x, arguments).toString();
        } catch (InvocationTargetException e) {
            return e.getCause().getClass().getSimpleName();
        } catch (IllegalAccessException e) {
            throw new IllegalStateException(e);
        }
    }

    private static long number(String word, boolean isLong) {
        if (word.equals("least")) return isLong ? Long.MIN_VALUE : Integer.MIN_VALUE;
        if (word.equals("greatest")) return isLong ? Long.MAX_VALUE : Integer.MAX_VALUE;
        return Long.parseLong(word);
    }

    private String write(String text) {
        call("clearText()");
        for (char c : spread(text).toCharArray()) call("append(" + (int) c + ")");
        return "";
    }

    private static String spread(String text) {
        Matcher m = Pattern.compile("(?:\\((.*?)\\)|(.))\\{(\\d+)\\}").matcher(text);
        StringBuilder spread = new StringBuilder();
        while (m.find()) {
            String part = m.group(1) != null ? m.group(1) : m.group(2);
            m.appendReplacement(spread, part.repeat(Integer.parseInt(m.group(3))));
        }
        return m.appendTail(spread).toString();
    }

    /** The answers of a call for 0, 1 and so on, until there are no more. */
    private String row(IntUnaryOperator answer) {
        StringBuilder s = new StringBuilder();
        for (int i = 0; i < MOST_CALLS; i++) {
            calls++;
            int got = answer.applyAsInt(i);
            if (got == ChunkCarriers.NONE) break;
            s.append(' ').append(got);
        }
        return s.toString().strip();
    }

    private String references(int b) {
        String[] entries = row(i -> x.reference(b, i, 1)).split(" ");
        StringBuilder s = new StringBuilder();
        for (int i = 0; i < entries.length; i++) {
            s.append(' ').append(call("reference(" + b + ", " + i + ", 0)")).append('.').append(entries[i]);
        }
        return s.toString().strip();
    }

    private String letters(int b) {
        StringBuilder s = new StringBuilder();
        for (String code : row(i -> x.letter(b, i)).split(" ")) s.append((char) Integer.parseInt(code));
        return s.toString();
    }

    private String containers() {
        return row(i -> x.container(i));
    }

    private String note() {
        noted = everything();
        return "";
    }

    private String everything() {
        StringBuilder s = new StringBuilder();
        for (int what = 0; what < 10; what++) tell(s, "about(" + what + ")");
        for (int what = 0; what < 5; what++) tell(s, "setting(" + what + ")");
        for (String c : containers().split(" ")) {
            if (!c.isEmpty()) tellContainer(s, c);
        }
        for (int b = 0; b < 8; b++) {
            tell(s, "backupOf(" + b + ", 0)");
            if (!s.toString().endsWith("Exception ")) s.append(references(b)).append(' ');
        }
        tell(s, "errorPosition()");
        for (int stream = 0; stream < 4; stream++) tell(s, "chunk(" + stream + ", 0, 1)");
        return s.toString();
    }

    private void tellContainer(StringBuilder s, String c) {
        tell(s, "containerOf(" + c + ", 0)");
        int entries = Integer.parseInt(call("containerOf(" + c + ", 1)"));
        for (int e = 0; e < entries; e++) {
            tell(s, "entry(" + c + ", " + e + ", 1)");
            tell(s, "entry(" + c + ", " + e + ", 2)");
        }
    }

    private void tell(StringBuilder s, String call) {
        s.append(call(call)).append(' ');
    }
}
