import java.util.ArrayList;
import java.util.LinkedHashMap;
import java.util.LinkedHashSet;
import java.util.List;
import java.util.Map;
import java.util.Set;

/**
 * The document once more, in its plainest form and without a thought of room or speed: each
 * question about what would be is answered by doing it on a copy. ModelTest holds the program
 * against it.
 */
final class Model {
    static final int NONE = -1;

    static final class Entry {
        final String chunk;
        Container home;

        Entry(String chunk, Container home) {
            this.chunk = chunk;
            this.home = home;
        }
    }

    static final class Container {
        final int number;
        final int capacity;
        final List<Entry> entries = new ArrayList<>();

        Container(int number, int capacity) {
            this.number = number;
            this.capacity = capacity;
        }
    }

    static final class State {
        int[] settings = {4, 4, 3, 50, 2};
        List<Container> containers = new ArrayList<>();
        List<List<Entry>> backups = new ArrayList<>();
        int next;
        int carried;

        State() {
            for (int b = 0; b < 8; b++) backups.add(null);
        }

        State copy() {
            State c = new State();
            c.settings = settings.clone();
            c.next = next;
            c.carried = carried;
            Map<Entry, Entry> twins = new LinkedHashMap<>();
            for (Container old : containers) {
                Container k = new Container(old.number, old.capacity);
                for (Entry e : old.entries) {
                    Entry t = new Entry(e.chunk, k);
                    k.entries.add(t);
                    twins.put(e, t);
                }
                c.containers.add(k);
            }
            for (int b = 0; b < 8; b++) {
                if (backups.get(b) == null) continue;
                List<Entry> refs = new ArrayList<>();
                for (Entry e : backups.get(b)) refs.add(twins.get(e));
                c.backups.set(b, refs);
            }
            return c;
        }

        Container byNumber(int number) {
            for (Container c : containers) if (c.number == number) return c;
            return null;
        }

        int references(Entry e) {
            int n = 0;
            for (List<Entry> refs : backups) {
                if (refs != null) for (Entry r : refs) if (r == e) n++;
            }
            return n;
        }

        int living(Container c) {
            int n = 0;
            for (Entry e : c.entries) if (references(e) > 0) n++;
            return n;
        }

        int living() {
            int n = 0;
            for (Container c : containers) n += living(c);
            return n;
        }

        int entries() {
            int n = 0;
            for (Container c : containers) n += c.entries.size();
            return n;
        }

        int backupCount() {
            int n = 0;
            for (List<Entry> refs : backups) if (refs != null) n++;
            return n;
        }

        Container last() {
            return containers.isEmpty() ? null : containers.get(containers.size() - 1);
        }

        boolean thin(Container c) {
            return c != last() && 100 * living(c) < settings[3] * c.entries.size();
        }

        int thinCount() {
            int n = 0;
            for (Container c : containers) if (thin(c)) n++;
            return n;
        }

        Entry putAway(String chunk) {
            Container c = last();
            if (c == null || c.entries.size() >= c.capacity) {
                c = new Container(next++, settings[1]);
                containers.add(c);
            }
            Entry e = new Entry(chunk, c);
            c.entries.add(e);
            return e;
        }

        Container home(String chunk) {
            Container home = null;
            for (Container c : containers) {
                for (Entry e : c.entries) if (e.chunk.equals(chunk)) home = c;
            }
            return home;
        }

        /** Steps 1 to 3, whatever the bounds; the references, and what was put away. */
        List<Entry> make(String stream, int limit, List<Entry> put) {
            List<String> chunks = cut(stream, settings[0]);
            Map<Container, Integer> most = new LinkedHashMap<>();
            for (String chunk : chunks) {
                if (home(chunk) != null) most.merge(home(chunk), 1, Integer::sum);
            }
            List<Container> ranked = new ArrayList<>(most.keySet());
            ranked.sort((a, b) -> most.get(a).equals(most.get(b))
                ? Integer.compare(b.number, a.number) : Integer.compare(most.get(b), most.get(a)));
            Set<Container> stay = new LinkedHashSet<>(ranked.subList(0, Math.min(limit, ranked.size())));
            List<Container> homes = new ArrayList<>();
            for (String chunk : chunks) {
                Container h = home(chunk);
                homes.add(h != null && stay.contains(h) ? h : null);
            }
            List<Entry> refs = new ArrayList<>();
            for (int i = 0; i < chunks.size(); i++) {
                Entry found = null;
                List<Entry> among = homes.get(i) != null ? homes.get(i).entries : put;
                for (Entry e : among) {
                    if (found == null && e.chunk.equals(chunks.get(i))) found = e;
                }
                if (found == null) {
                    found = putAway(chunks.get(i));
                    put.add(found);
                }
                refs.add(found);
            }
            return refs;
        }

        /** The number of the new backup, or NONE, and then the state is not to be used any more. */
        int backup(String stream) {
            List<Entry> refs = make(stream, settings[2], new ArrayList<>());
            if (containers.size() > 24) return NONE;
            for (int b = 0; b < 8; b++) {
                if (backups.get(b) == null) {
                    backups.set(b, refs);
                    return b;
                }
            }
            return NONE;
        }

        int delete(int b) {
            int before = living();
            backups.set(b, null);
            return before - living();
        }

        int carry() {
            List<Container> thin = new ArrayList<>();
            for (Container c : containers) if (thin(c)) thin.add(c);
            int n = 0;
            for (Container c : thin) {
                for (Entry e : c.entries) {
                    if (references(e) == 0) continue;
                    Entry anew = putAway(e.chunk);
                    n++;
                    for (List<Entry> refs : backups) {
                        if (refs != null) refs.replaceAll(r -> r == e ? anew : r);
                    }
                }
                containers.remove(c);
            }
            carried += n;
            return n;
        }

        int loads(List<Entry> refs) {
            List<Container> store = new ArrayList<>();
            int loads = 0;
            for (Entry e : refs) {
                if (!store.remove(e.home)) loads++;
                store.add(e.home);
                if (store.size() > settings[4]) store.remove(0);
            }
            return loads;
        }

        int allLoads() {
            int n = 0;
            for (List<Entry> refs : backups) if (refs != null) n += loads(refs);
            return n;
        }
    }

    static List<String> cut(String stream, int divisor) {
        List<String> chunks = new ArrayList<>();
        String chunk = "";
        for (int i = 0; i < stream.length(); i++) {
            chunk += stream.charAt(i);
            int n = chunk.length();
            boolean ends = i == stream.length() - 1 || n == 6
                || n >= 2 && (chunk.charAt(n - 1) - 96 + chunk.charAt(n - 2) - 96) % divisor == 0;
            if (ends) {
                chunks.add(chunk);
                chunk = "";
            }
        }
        return chunks;
    }

    static int sum(String chunk) {
        int sum = 7;
        for (char c : chunk.toCharArray()) sum = (31 * sum + (c - 96)) % 997;
        return sum;
    }

    private String text = "";
    private State state = new State();
    private final List<State> past = new ArrayList<>();
    private final State[] slots = new State[2];

    int append(int c) {
        if (c < 0 || c > 255) throw new IllegalArgumentException();
        if (text.length() == 120) throw new IllegalStateException();
        text += (char) c;
        return text.length();
    }

    int clearText() {
        int n = text.length();
        text = "";
        return n;
    }

    static boolean isBeginning(String t) {
        return t.matches("([a-h]{1,30},){0,3}[a-h]{0,30}");
    }

    int errorPosition() {
        if (text.matches("([a-h]{1,30},){0,3}[a-h]{1,30}")) return NONE;
        for (int i = 0; i < text.length(); i++) {
            if (!isBeginning(text.substring(0, i + 1))) return i;
        }
        return text.length();
    }

    private String stream(int s) {
        if (errorPosition() != NONE) throw new IndexOutOfBoundsException();
        String[] parts = text.split(",");
        if (s < 0 || s >= parts.length) throw new IndexOutOfBoundsException();
        return parts[s];
    }

    private static void range(int what, int highest) {
        if (what < 0 || what > highest) throw new IllegalArgumentException();
    }

    int chunk(int s, int i, int what) {
        List<String> chunks = cut(stream(s), state.settings[0]);
        range(what, 3);
        if (i < 0) throw new IllegalArgumentException();
        if (i >= chunks.size()) return NONE;
        String chunk = chunks.get(i);
        if (what == 0) return chunk.length();
        if (what == 1) return sum(chunk);
        if (what == 3) return state.home(chunk) == null ? NONE : state.home(chunk).number;
        int n = 0;
        for (Container c : state.containers) for (Entry e : c.entries) if (e.chunk.equals(chunk)) n++;
        return n;
    }

    int about(int what) {
        range(what, 9);
        int references = 0;
        for (List<Entry> refs : state.backups) if (refs != null) references += refs.size();
        int letters = 0;
        Set<String> unlike = new LinkedHashSet<>();
        for (Container c : state.containers) {
            for (Entry e : c.entries) {
                letters += e.chunk.length();
                unlike.add(e.chunk);
            }
        }
        int[] all = {state.containers.size(), state.backupCount(), state.entries(), state.living(), unlike.size(),
            state.thinCount(), references, letters, state.next, state.carried};
        return all[what];
    }

    int container(int i) {
        if (i < 0) throw new IllegalArgumentException();
        return i < state.containers.size() ? state.containers.get(i).number : NONE;
    }

    int containerOf(int c, int what) {
        Container k = state.byNumber(c);
        if (k == null) throw new IndexOutOfBoundsException();
        range(what, 4);
        int referring = 0;
        for (List<Entry> refs : state.backups) {
            if (refs != null && refs.stream().anyMatch(e -> e.home == k)) referring++;
        }
        int[] all = {k.capacity, k.entries.size(), state.living(k), state.thin(k) ? 1 : 0, referring};
        return all[what];
    }

    int entry(int c, int e, int what) {
        Container k = state.byNumber(c);
        if (k == null || e < 0 || e >= k.entries.size()) throw new IndexOutOfBoundsException();
        range(what, 3);
        Entry n = k.entries.get(e);
        int[] all = {n.chunk.length(), sum(n.chunk), state.references(n), n.chunk.charAt(0)};
        return all[what];
    }

    private List<Entry> refs(int b) {
        if (b < 0 || b > 7 || state.backups.get(b) == null) throw new IndexOutOfBoundsException();
        return state.backups.get(b);
    }

    private String letters(int b) {
        StringBuilder s = new StringBuilder();
        for (Entry e : refs(b)) s.append(e.chunk);
        return s.toString();
    }

    int backupOf(int b, int what) {
        List<Entry> refs = refs(b);
        range(what, 4);
        Set<Container> in = new LinkedHashSet<>();
        int jumps = 0;
        for (int i = 0; i < refs.size(); i++) {
            in.add(refs.get(i).home);
            if (i > 0 && refs.get(i).home != refs.get(i - 1).home) jumps++;
        }
        int[] all = {refs.size(), letters(b).length(), in.size(), state.loads(refs), jumps};
        return all[what];
    }

    int reference(int b, int i, int what) {
        List<Entry> refs = refs(b);
        range(what, 1);
        if (i < 0) throw new IllegalArgumentException();
        if (i >= refs.size()) return NONE;
        Entry e = refs.get(i);
        return what == 0 ? e.home.number : e.home.entries.indexOf(e);
    }

    int letter(int b, int i) {
        String letters = letters(b);
        if (i < 0) throw new IllegalArgumentException();
        return i < letters.length() ? letters.charAt(i) : NONE;
    }

    int setting(int what) {
        range(what, 4);
        return state.settings[what];
    }

    private void act(State then) {
        past.add(state);
        if (past.size() > 14) past.remove(0);
        state = then;
    }

    int backup(int s) {
        State then = state.copy();
        int b = then.backup(stream(s));
        if (b == NONE) throw new IllegalStateException();
        act(then);
        return b;
    }

    int delete(int b) {
        refs(b);
        State then = state.copy();
        int n = then.delete(b);
        act(then);
        return n;
    }

    int carry() {
        State then = state.copy();
        int n = then.carry();
        act(then);
        return n;
    }

    private static boolean allowed(int what, int v) {
        int[][] ranges = {{2, 9}, {2, 8}, {1, 9}, {1, 100}, {1, 4}};
        return what >= 0 && what <= 4 && v >= ranges[what][0] && v <= ranges[what][1];
    }

    int set(int what, int v) {
        if (!allowed(what, v)) throw new IllegalArgumentException();
        State then = state.copy();
        int before = then.settings[what];
        then.settings[what] = v;
        act(then);
        return before;
    }

    int undo() {
        if (past.isEmpty()) throw new IllegalStateException();
        state = past.remove(past.size() - 1);
        return past.size();
    }

    int ifDeleted(int b) {
        refs(b);
        return state.copy().delete(b);
    }

    int ifCarried(int what) {
        range(what, 1);
        State then = state.copy();
        then.carry();
        return what == 0 ? state.entries() - then.entries() : state.allLoads() - then.allLoads();
    }

    int wouldPut(int s) {
        List<Entry> put = new ArrayList<>();
        String stream = stream(s);
        state.copy().make(stream, state.settings[2], put);
        return put.size();
    }

    int bestLimit(int s) {
        String stream = stream(s);
        int best = 0;
        int least = Integer.MAX_VALUE;
        for (int limit = 1; limit <= 9; limit++) {
            State then = state.copy();
            List<Entry> put = new ArrayList<>();
            List<Entry> refs = then.make(stream, limit, put);
            int cost = put.size() + then.loads(refs);
            if (cost < least) {
                least = cost;
                best = limit;
            }
        }
        return best;
    }

    int worst() {
        int worst = NONE;
        for (int b = 0; b < 8; b++) {
            if (state.backups.get(b) == null) continue;
            if (worst == NONE || state.loads(refs(b)) > state.loads(refs(worst))) worst = b;
        }
        return worst;
    }

    int runScript(int n, long script) {
        if (n < 1 || n > 3 || script < 0) throw new IllegalArgumentException();
        String digits = Long.toString(script);
        if (digits.length() > 4 * n) throw new IllegalArgumentException();
        while (digits.length() < 4 * n) digits = "0" + digits;
        State copy = state.copy();
        for (int i = 0; i < n; i++) {
            State then = copy.copy();
            if (!command(then, digits.substring(4 * i, 4 * i + 4))) return i;
            copy = then;
        }
        return NONE;
    }

    private boolean command(State on, String group) {
        int second = group.charAt(1) - '0';
        int number = Integer.parseInt(group.substring(2));
        if (group.matches("1.00")) {
            String[] parts = errorPosition() == NONE ? text.split(",") : new String[0];
            return second < parts.length && on.backup(parts[second]) != NONE;
        }
        boolean there = second < 8 && on.backups.get(second) != null;
        if (group.matches("2.00")) {
            if (there) on.delete(second);
            return there;
        }
        if (group.equals("3000")) {
            on.carry();
            return true;
        }
        if (group.startsWith("4") && allowed(second, number)) {
            on.settings[second] = number;
            return true;
        }
        if (group.startsWith("50")) return on.containers.size() <= number;
        if (group.startsWith("6")) return there && on.loads(on.backups.get(second)) <= number;
        if (group.startsWith("70")) return on.living() >= number;
        return group.startsWith("80") && on.thinCount() <= number;
    }

    int simulate(long seed, int m) {
        if (m < 1 || m > 40) throw new IllegalArgumentException();
        State copy = state.copy();
        long x = seed;
        for (int turn = 0; turn < m; turn++) {
            x = x * 6364136223846793005L + 1442695040888963407L;
            int r = (int) (x >>> 33);
            if (r % 8 == 0) {
                copy.carry();
            } else if (r % 8 <= 2) {
                int b = r / 8 % 8;
                if (copy.backups.get(b) != null) copy.delete(b);
            } else {
                StringBuilder stream = new StringBuilder();
                for (int i = 0; i < 12; i++) {
                    int worth = i < 6 ? 1 + (r >> (3 * (i % 5)) & 7) : 1 + (r / 32768 >> i & 3);
                    stream.append((char) (96 + worth));
                }
                State then = copy.copy();
                if (then.backup(stream.toString()) != NONE) copy = then;
            }
        }
        return 1000 * copy.containers.size() + copy.living();
    }

    int save(int slot) {
        if (slot < 0 || slot > 1) throw new IndexOutOfBoundsException();
        slots[slot] = state.copy();
        return state.backupCount();
    }

    int restore(int slot) {
        if (slot < 0 || slot > 1) throw new IndexOutOfBoundsException();
        if (slots[slot] == null) throw new IllegalStateException();
        state = slots[slot].copy();
        past.clear();
        return state.backupCount();
    }
}
