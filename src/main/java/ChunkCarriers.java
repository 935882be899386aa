/**
 * A desk of backups that share chunks: streams are cut into chunks, chunks are put away in
 * containers, and backups refer to them. ../shared/DOC.md promises what each call answers.
 */
public final class ChunkCarriers {
    public static final int NONE = -1;

    private static final int MOST_CHARACTERS = 120;
    private static final int HIGHEST_CHARACTER = 255;
    private static final int MOST_STREAMS = 4;
    private static final int MOST_LETTERS = 30;
    private static final int MOST_BACKUPS = 8;
    private static final int MOST_CONTAINERS_BEHIND_A_BACKUP = 24;
    private static final int LONGEST_CHUNK = 6;
    /** Only the last chunk of a stream can be of one letter. */
    private static final int MOST_CHUNKS = 15;
    /** 24 containers of 8 entries; carrying forward never ends with more entries than before. */
    private static final int MOST_ENTRIES = 192;
    /** Behind carrying forward all but one have a living entry, and there are 120 references. */
    private static final int MOST_CONTAINERS = 121;
    private static final int MOST_REMEMBERED = 14;
    private static final int SLOTS = 2;
    private static final int MOST_COMMANDS = 3;
    private static final int MOST_TURNS = 40;
    private static final int SIMULATED_LETTERS = 12;

    private static final int DIVISOR = 0;
    private static final int CAPACITY = 1;
    private static final int LIMIT = 2;
    private static final int THINNESS = 3;
    private static final int STORE = 4;
    private static final int SETTINGS = 5;
    private static final int[] FIRST_SETTINGS = {4, 4, 3, 50, 2};
    private static final int[] LEAST_SETTINGS = {2, 2, 1, 1, 1};
    private static final int[] GREATEST_SETTINGS = {9, 8, 9, 100, 4};
    private static final int HIGHEST_LIMIT = 9;
    private static final int LARGEST_STORE = 4;

    private final Text text = new Text();
    private final Desk desk = new Desk();
    /** What would be is tried out here. */
    private final Desk trial = new Desk();
    private final Past past = new Past();
    private final Desk[] saved = new Desk[SLOTS];
    private final Stream stream = new Stream();
    private final Plan plan = new Plan();
    private final Store store = new Store();
    private final Carrier carrier = new Carrier();

    /** Creates a desk without containers and backups. */
    public ChunkCarriers() {
    }

    // ---- text

    /** Appends a character to the text buffer and returns the new length of the text. */
    public int append(int c) throws IllegalArgumentException, IllegalStateException {
        if (c < 0 || c > HIGHEST_CHARACTER) throw new IllegalArgumentException();
        if (text.isFull()) throw new IllegalStateException();
        text.add(c);
        return text.length;
    }

    /** Empties the text buffer and returns the previous length of the text. */
    public int clearText() {
        int length = text.length;
        text.length = 0;
        return length;
    }

    /** Returns the error position of the text, NONE if it is streams. */
    public int errorPosition() {
        return text.firstError();
    }

    /** Returns a number of chunk i of stream s; NONE if the stream has not so many chunks. */
    public int chunk(int s, int i, int what) throws IndexOutOfBoundsException, IllegalArgumentException {
        if (!text.readStream(s, stream)) throw new IndexOutOfBoundsException();
        if (i < 0 || what < 0 || what > 3) throw new IllegalArgumentException();
        stream.cut(desk.settingAt(DIVISOR));
        if (i >= stream.chunks) return NONE;
        int code = stream.codeAt(i);
        switch (what) {
            case 0: return Letters.count(code);
            case 1: return Letters.sum(code);
            case 2: return desk.entriesWith(code);
            default: return desk.numberAt(desk.homeOf(code));
        }
    }

    // ---- what there is

    /** Returns a number of the whole desk. */
    public int about(int what) throws IllegalArgumentException {
        switch (what) {
            case 0: return desk.containers;
            case 1: return desk.backups();
            case 2: return desk.entries;
            case 3: return desk.living();
            case 4: return desk.unlikeChunks();
            case 5: return desk.thinContainers();
            case 6: return desk.allReferences();
            case 7: return desk.allLetters();
            case 8: return desk.nextNumber;
            case 9: return desk.carried;
            default: throw new IllegalArgumentException();
        }
    }

    /** Returns the number of the container at a place; NONE if there are not so many. */
    public int container(int i) throws IllegalArgumentException {
        if (i < 0) throw new IllegalArgumentException();
        return desk.numberAt(i);
    }

    /** Returns a number of the container with the number c. */
    public int containerOf(int c, int what) throws IndexOutOfBoundsException, IllegalArgumentException {
        int place = desk.placeOfNumber(c);
        if (place == NONE) throw new IndexOutOfBoundsException();
        switch (what) {
            case 0: return desk.capacityAt(place);
            case 1: return desk.sizeAt(place);
            case 2: return desk.livingAt(place);
            case 3: return desk.isThin(place) ? 1 : 0;
            case 4: return desk.backupsReferringTo(place);
            default: throw new IllegalArgumentException();
        }
    }

    /** Returns a number of entry e of the container with the number c. */
    public int entry(int c, int e, int what) throws IndexOutOfBoundsException, IllegalArgumentException {
        int place = desk.placeOfNumber(c);
        if (place == NONE || e < 0 || e >= desk.sizeAt(place)) throw new IndexOutOfBoundsException();
        int entry = desk.firstEntryAt(place) + e;
        switch (what) {
            case 0: return Letters.count(desk.codeOfEntry(entry));
            case 1: return Letters.sum(desk.codeOfEntry(entry));
            case 2: return desk.usesOfEntry(entry);
            case 3: return Letters.sign(desk.codeOfEntry(entry), 0);
            default: throw new IllegalArgumentException();
        }
    }

    /** Returns a number of backup b. */
    public int backupOf(int b, int what) throws IndexOutOfBoundsException, IllegalArgumentException {
        if (!desk.hasBackup(b)) throw new IndexOutOfBoundsException();
        switch (what) {
            case 0: return desk.chunksOf(b);
            case 1: return desk.lettersOf(b);
            case 2: return desk.containersOf(b);
            case 3: return loads(desk, b);
            case 4: return jumps(desk, b);
            default: throw new IllegalArgumentException();
        }
    }

    /** Returns reference i of backup b; NONE if there are not so many. */
    public int reference(int b, int i, int what) throws IndexOutOfBoundsException, IllegalArgumentException {
        if (!desk.hasBackup(b)) throw new IndexOutOfBoundsException();
        if (i < 0 || what < 0 || what > 1) throw new IllegalArgumentException();
        int entry = desk.entryReferred(b, i);
        if (entry == NONE) return NONE;
        int place = desk.placeOfEntry(entry);
        return what == 0 ? desk.numberAt(place) : entry - desk.firstEntryAt(place);
    }

    /** Returns the code of letter i of backup b; NONE if the stream is not so long. */
    public int letter(int b, int i) throws IndexOutOfBoundsException, IllegalArgumentException {
        if (!desk.hasBackup(b)) throw new IndexOutOfBoundsException();
        if (i < 0) throw new IllegalArgumentException();
        return desk.signOf(b, i);
    }

    /** Returns a setting. */
    public int setting(int what) throws IllegalArgumentException {
        if (what < 0 || what >= SETTINGS) throw new IllegalArgumentException();
        return desk.settingAt(what);
    }

    // ---- actions

    /** Makes a backup of stream s of the text and returns the number of the backup. */
    public int backup(int s) throws IndexOutOfBoundsException, IllegalStateException {
        if (!text.readStream(s, stream)) throw new IndexOutOfBoundsException();
        planWith(desk);
        if (!desk.allows(plan)) throw new IllegalStateException();
        past.remember(desk);
        return desk.addBackup(plan, stream);
    }

    /** Deletes backup b and returns how many entries are not living any more by that. */
    public int delete(int b) throws IndexOutOfBoundsException {
        if (!desk.hasBackup(b)) throw new IndexOutOfBoundsException();
        past.remember(desk);
        return desk.removeBackup(b);
    }

    /** Carries thin containers forward and returns how many entries are put away anew. */
    public int carry() {
        past.remember(desk);
        return carrier.carryForward(desk);
    }

    /** Changes a setting and returns the previous one. */
    public int set(int what, int v) throws IllegalArgumentException {
        if (!isSetting(what, v)) throw new IllegalArgumentException();
        past.remember(desk);
        return desk.changeSetting(what, v);
    }

    /** Takes back the last action and returns how many states are still remembered. */
    public int undo() throws IllegalStateException {
        if (past.count == 0) throw new IllegalStateException();
        past.takeBack(desk);
        return past.count;
    }

    // ---- what would be

    /** Returns how many entries would not be living any more if backup b was deleted. */
    public int ifDeleted(int b) throws IndexOutOfBoundsException {
        if (!desk.hasBackup(b)) throw new IndexOutOfBoundsException();
        return desk.dyingWith(b);
    }

    /** Returns how many entries (0) or loads (1) carrying forward would save. */
    public int ifCarried(int what) throws IllegalArgumentException {
        if (what < 0 || what > 1) throw new IllegalArgumentException();
        trial.copyFrom(desk);
        carrier.carryForward(trial);
        return what == 0 ? desk.entries - trial.entries : allLoads(desk) - allLoads(trial);
    }

    /** Returns how many chunks a backup of stream s would put away. */
    public int wouldPut(int s) throws IndexOutOfBoundsException {
        if (!text.readStream(s, stream)) throw new IndexOutOfBoundsException();
        planWith(desk);
        return plan.puts;
    }

    /** Returns the limit with which a backup of stream s puts away and loads least. */
    public int bestLimit(int s) throws IndexOutOfBoundsException {
        if (!text.readStream(s, stream)) throw new IndexOutOfBoundsException();
        stream.cut(desk.settingAt(DIVISOR));
        int best = NONE;
        int leastCost = 0;
        for (int limit = 1; limit <= HIGHEST_LIMIT; limit++) {
            plan.layOut(desk, stream, limit);
            store.open(desk.settingAt(STORE));
            plan.passThrough(store);
            int cost = plan.puts + store.loads;
            if (best == NONE || cost < leastCost) {
                best = limit;
                leastCost = cost;
            }
        }
        return best;
    }

    /** Returns the backup whose restore loads most containers; NONE without backups. */
    public int worst() {
        int worst = NONE;
        int mostLoads = 0;
        for (int b = 0; b < MOST_BACKUPS; b++) {
            int loads = loads(desk, b);
            if (loads > mostLoads) {
                worst = b;
                mostLoads = loads;
            }
        }
        return worst;
    }

    // ---- scripts, simulations

    /** Runs a script on a copy and returns the index of the first command that fails, or NONE. */
    public int runScript(int n, long script) throws IllegalArgumentException {
        if (n < 1 || n > MOST_COMMANDS) throw new IllegalArgumentException();
        if (script < 0 || withoutGroups(script, n) != 0) throw new IllegalArgumentException();
        trial.copyFrom(desk);
        for (int i = 0; i < n; i++) {
            int group = (int) (withoutGroups(script, n - 1 - i) % 10000);
            if (!succeeds(group)) return i;
        }
        return NONE;
    }

    /** Simulates m turns on a copy and returns 1000 * its containers + its living entries. */
    public int simulate(long seed, int m) throws IllegalArgumentException {
        if (m < 1 || m > MOST_TURNS) throw new IllegalArgumentException();
        trial.copyFrom(desk);
        long x = seed;
        for (int turn = 0; turn < m; turn++) {
            x = x * 6364136223846793005L + 1442695040888963407L;
            simulateTurn((int) (x >>> 33));
        }
        return 1000 * trial.containers + trial.living();
    }

    // ---- save slots

    /** Stores the present state in a save slot and returns the number of backups. */
    public int save(int slot) throws IndexOutOfBoundsException {
        if (slot < 0 || slot >= SLOTS) throw new IndexOutOfBoundsException();
        if (saved[slot] == null) saved[slot] = new Desk();
        saved[slot].copyFrom(desk);
        return desk.backups();
    }

    /** Replaces the state by a saved one, forgets the remembered ones, returns the backups. */
    public int restore(int slot) throws IndexOutOfBoundsException, IllegalStateException {
        if (slot < 0 || slot >= SLOTS) throw new IndexOutOfBoundsException();
        if (saved[slot] == null) throw new IllegalStateException();
        desk.copyFrom(saved[slot]);
        past.forget();
        return desk.backups();
    }

    // ---- helpers of the calls

    private static boolean isSetting(int what, int value) {
        if (what < 0 || what >= SETTINGS) return false;
        return value >= LEAST_SETTINGS[what] && value <= GREATEST_SETTINGS[what];
    }

    /** Cuts the stream that was read and plans its backup, both by the settings of that desk. */
    private void planWith(Desk on) {
        stream.cut(on.settingAt(DIVISOR));
        plan.layOut(on, stream, on.settingAt(LIMIT));
    }

    private int loads(Desk on, int b) {
        store.open(on.settingAt(STORE));
        on.passThrough(b, store);
        return store.loads;
    }

    private int jumps(Desk on, int b) {
        store.open(on.settingAt(STORE));
        on.passThrough(b, store);
        return store.jumps;
    }

    private int allLoads(Desk on) {
        int sum = 0;
        for (int b = 0; b < MOST_BACKUPS; b++) sum += loads(on, b);
        return sum;
    }

    /** Takes the lowest groups of four digits off a script. */
    private static long withoutGroups(long script, int groups) {
        long rest = script;
        for (int i = 0; i < groups; i++) rest /= 10000;
        return rest;
    }

    private boolean succeeds(int group) {
        int second = group / 100 % 10;
        int number = group % 100;
        switch (group / 1000) {
            case 1: return number == 0 && text.readStream(second, stream) && backsUpOnTrial();
            case 2: return number == 0 && deletesOnTrial(second);
            case 3: return number == 0 && second == 0 && carrier.carryForward(trial) >= 0;
            case 4: return setsOnTrial(second, number);
            case 5: return second == 0 && trial.containers <= number;
            case 6: return trial.hasBackup(second) && loads(trial, second) <= number;
            case 7: return second == 0 && trial.living() >= number;
            case 8: return second == 0 && trial.thinContainers() <= number;
            default: return false;
        }
    }

    private boolean backsUpOnTrial() {
        planWith(trial);
        if (!trial.allows(plan)) return false;
        trial.addBackup(plan, stream);
        return true;
    }

    private boolean deletesOnTrial(int b) {
        if (!trial.hasBackup(b)) return false;
        trial.removeBackup(b);
        return true;
    }

    private boolean setsOnTrial(int what, int value) {
        if (!isSetting(what, value)) return false;
        trial.changeSetting(what, value);
        return true;
    }

    /** What can't be done in a turn is left out, as a command that fails changes nothing. */
    private void simulateTurn(int r) {
        int kind = r % 8;
        if (kind == 0) {
            carrier.carryForward(trial);
        } else if (kind <= 2) {
            deletesOnTrial(r / 8 % 8);
        } else {
            simulateStream(r);
            backsUpOnTrial();
        }
    }

    private void simulateStream(int r) {
        stream.begin();
        for (int i = 0; i < SIMULATED_LETTERS; i++) {
            int bits = i < 6 ? r >> (3 * (i % 5)) & 7 : r / 32768 >> i & 3;
            stream.take(1 + bits);
        }
    }

    /**
     * Chunks as numbers: a 1, and behind it three bits for each letter. So unlike chunks have
     * unlike numbers, whatever their lengths.
     */
    private static final class Letters {
        static final int EMPTY = 1;

        static int with(int code, int worth) {
            return code * 8 + worth - 1;
        }

        static int count(int code) {
            int count = 0;
            for (int rest = code; rest >= 8 && count < LONGEST_CHUNK; rest >>= 3) count++;
            return count;
        }

        static int worth(int code, int i) {
            return 1 + (code >> 3 * (count(code) - 1 - i) & 7);
        }

        static int sign(int code, int i) {
            return 'a' + worth(code, i) - 1;
        }

        static int sum(int code) {
            int count = count(code);
            int sum = 7;
            for (int i = 0; i < count; i++) sum = (31 * sum + worth(code, i)) % 997;
            return sum;
        }
    }

    /** The text buffer. */
    private static final class Text {
        final char[] signs = new char[MOST_CHARACTERS];
        int length;

        boolean isFull() {
            return length >= signs.length;
        }

        void add(int c) {
            if (isFull()) return;
            signs[length] = (char) c;
            length++;
        }

        /** The error position, NONE if the text is streams. */
        int firstError() {
            int streams = 1;
            int letters = 0;
            for (int i = 0; i < length; i++) {
                if (isLetter(signs[i]) && letters < MOST_LETTERS) {
                    letters++;
                } else if (signs[i] == ',' && letters > 0 && streams < MOST_STREAMS) {
                    streams++;
                    letters = 0;
                } else {
                    return i;
                }
            }
            return letters > 0 ? NONE : length;
        }

        /** Reads stream s of the text; false, and nothing read, if there is none. */
        boolean readStream(int s, Stream into) {
            if (s < 0 || firstError() != NONE) return false;
            int start = startOf(s);
            if (start == NONE) return false;
            into.begin();
            for (int i = start; i < length && signs[i] != ','; i++) into.take(signs[i] - 'a' + 1);
            return true;
        }

        private int startOf(int s) {
            if (s == 0) return 0;
            int commas = 0;
            for (int i = 0; i < length; i++) {
                if (signs[i] == ',') commas++;
                if (commas == s) return i + 1;
            }
            return NONE;
        }

        private static boolean isLetter(int sign) {
            return sign >= 'a' && sign <= 'h';
        }
    }

    /** A stream of letters, and the chunks that it is cut into. */
    private static final class Stream {
        final int[] worths = new int[MOST_LETTERS];
        final int[] codes = new int[MOST_CHUNKS];
        int letters;
        int chunks;

        void begin() {
            letters = 0;
            chunks = 0;
        }

        void take(int worth) {
            if (letters >= worths.length) return;
            worths[letters] = worth;
            letters++;
        }

        int codeAt(int i) {
            return i >= 0 && i < chunks ? codes[i] : Letters.EMPTY;
        }

        void cut(int divisor) {
            chunks = 0;
            int code = Letters.EMPTY;
            int size = 0;
            for (int i = 0; i < letters; i++) {
                code = Letters.with(code, worths[i]);
                size++;
                if (endsBehind(i, size, divisor)) {
                    close(code);
                    code = Letters.EMPTY;
                    size = 0;
                }
            }
        }

        private boolean endsBehind(int i, int size, int divisor) {
            if (i == letters - 1 || size == LONGEST_CHUNK) return true;
            if (i < 1 || size < 2 || divisor < 1) return false;
            return (worths[i - 1] + worths[i]) % divisor == 0;
        }

        private void close(int code) {
            if (chunks >= codes.length) return;
            codes[chunks] = code;
            chunks++;
        }
    }

    /** The containers that a restore has loaded; its loads and jumps are counted. */
    private static final class Store {
        /** The one that was used last stands in front. */
        final int[] loaded = new int[LARGEST_STORE];
        int room;
        int held;
        int before;
        int loads;
        int jumps;

        void open(int size) {
            room = Math.max(1, Math.min(size, loaded.length));
            held = 0;
            before = NONE;
            loads = 0;
            jumps = 0;
        }

        void use(int place) {
            if (before != NONE && before != place) jumps++;
            before = place;
            int at = find(place);
            if (at == held) {
                loads++;
                if (held < room) held++;
                else at--;
            }
            for (int i = at; i > 0; i--) loaded[i] = loaded[i - 1];
            loaded[0] = place;
        }

        /** Where the container stands; behind all that are held if it is not in the store. */
        private int find(int place) {
            for (int i = 0; i < held; i++) {
                if (loaded[i] == place) return i;
            }
            return held;
        }
    }

    /** What a backup of a stream would refer to, found without changing the desk. */
    private static final class Plan {
        /** The container of each chunk: its home, or the one that it is put away in. */
        final int[] places = new int[MOST_CHUNKS];
        /** The entry of each chunk; the new ones follow on those of the desk, in order. */
        final int[] entries = new int[MOST_CHUNKS];
        int chunks;
        int puts;
        int newContainers;
        /** The containers that are homes, and how many chunks of the stream each has. */
        private final int[] rivals = new int[MOST_CHUNKS];
        private final int[] votes = new int[MOST_CHUNKS];
        private int rivalCount;

        void layOut(Desk desk, Stream stream, int limit) {
            chunks = stream.chunks;
            findHomes(desk, stream);
            countVotes();
            for (int left = rivalCount; left > limit; left--) dropWeakest();
            puts = 0;
            newContainers = 0;
            int room = desk.roomInLast();
            for (int i = 0; i < chunks; i++) {
                int code = stream.codeAt(i);
                if (places[i] != NONE) {
                    entries[i] = desk.firstEntryWith(code, places[i]);
                } else if (!repeats(stream, i)) {
                    if (room == 0) {
                        newContainers++;
                        room = desk.settingAt(CAPACITY);
                    }
                    room--;
                    places[i] = desk.containers + newContainers - 1;
                    entries[i] = desk.entries + puts;
                    puts++;
                }
            }
        }

        void passThrough(Store store) {
            for (int i = 0; i < chunks; i++) store.use(places[i]);
        }

        private void findHomes(Desk desk, Stream stream) {
            for (int i = 0; i < chunks; i++) places[i] = desk.homeOf(stream.codeAt(i));
        }

        private void countVotes() {
            rivalCount = 0;
            for (int i = 0; i < chunks; i++) {
                if (places[i] == NONE) continue;
                int at = rivalAt(places[i]);
                if (at == rivalCount) {
                    rivals[at] = places[i];
                    votes[at] = 0;
                    rivalCount++;
                }
                votes[at]++;
            }
        }

        private int rivalAt(int place) {
            for (int i = 0; i < rivalCount; i++) {
                if (rivals[i] == place) return i;
            }
            return rivalCount;
        }

        private void dropWeakest() {
            int weakest = 0;
            for (int i = 1; i < rivalCount; i++) {
                if (isWeaker(i, weakest)) weakest = i;
            }
            for (int i = 0; i < chunks; i++) {
                if (places[i] == rivals[weakest]) places[i] = NONE;
            }
            rivalCount--;
            rivals[weakest] = rivals[rivalCount];
            votes[weakest] = votes[rivalCount];
        }

        /** Places ascend as the numbers do, so of like ones the lower place is the weaker. */
        private boolean isWeaker(int a, int b) {
            return votes[a] < votes[b] || votes[a] == votes[b] && rivals[a] < rivals[b];
        }

        /** Whether a homeless chunk was put away before; then it gets that entry again. */
        private boolean repeats(Stream stream, int i) {
            for (int j = 0; j < i; j++) {
                if (stream.codeAt(j) == stream.codeAt(i)) {
                    places[i] = places[j];
                    entries[i] = entries[j];
                    return true;
                }
            }
            return false;
        }
    }

    /**
     * A state: settings, containers with their entries, backups. What is put away always comes
     * into the last container or behind it, so the entries of all containers stand in one row,
     * container behind container, and a reference is an index in that row.
     */
    private static final class Desk {
        final int[] settings = FIRST_SETTINGS.clone();
        /** By the place of a container: its number, its capacity, its first entry in the row. */
        final int[] numbers = new int[MOST_CONTAINERS];
        final int[] capacities = new int[MOST_CONTAINERS];
        final int[] firsts = new int[MOST_CONTAINERS];
        int containers;
        /** By entry: its chunk, the place of its container, the references to it. */
        final int[] codes = new int[MOST_ENTRIES];
        final int[] places = new int[MOST_ENTRIES];
        final int[] uses = new int[MOST_ENTRIES];
        int entries;
        final int[] references = new int[MOST_BACKUPS * MOST_CHUNKS];
        /** By backup: its references, how many; 0 if there is no such backup. */
        final int[] lengths = new int[MOST_BACKUPS];
        int nextNumber;
        int carried;

        void copyFrom(Desk other) {
            if (other == null) return;
            System.arraycopy(other.settings, 0, settings, 0, SETTINGS);
            System.arraycopy(other.numbers, 0, numbers, 0, other.containers);
            System.arraycopy(other.capacities, 0, capacities, 0, other.containers);
            System.arraycopy(other.firsts, 0, firsts, 0, other.containers);
            containers = other.containers;
            System.arraycopy(other.codes, 0, codes, 0, other.entries);
            System.arraycopy(other.places, 0, places, 0, other.entries);
            System.arraycopy(other.uses, 0, uses, 0, other.entries);
            entries = other.entries;
            System.arraycopy(other.references, 0, references, 0, references.length);
            System.arraycopy(other.lengths, 0, lengths, 0, lengths.length);
            nextNumber = other.nextNumber;
            carried = other.carried;
        }

        int settingAt(int what) {
            return what >= 0 && what < SETTINGS ? settings[what] : NONE;
        }

        int changeSetting(int what, int value) {
            int previous = settingAt(what);
            if (isSetting(what, value)) settings[what] = value;
            return previous;
        }

        // -- containers

        boolean hasPlace(int place) {
            return place >= 0 && place < containers;
        }

        int numberAt(int place) {
            return hasPlace(place) ? numbers[place] : NONE;
        }

        int capacityAt(int place) {
            return hasPlace(place) ? capacities[place] : 0;
        }

        /** For the place behind the last one, the end of the row. */
        int firstEntryAt(int place) {
            return place >= 0 && place < containers ? firsts[place] : entries;
        }

        int sizeAt(int place) {
            return firstEntryAt(place + 1) - firstEntryAt(place);
        }

        int placeOfNumber(int number) {
            for (int place = 0; place < containers; place++) {
                if (numbers[place] == number) return place;
            }
            return NONE;
        }

        int livingAt(int place) {
            int end = firstEntryAt(place + 1);
            int living = 0;
            for (int e = firstEntryAt(place); e < end; e++) {
                if (usesOfEntry(e) > 0) living++;
            }
            return living;
        }

        boolean isThin(int place) {
            if (place >= containers - 1) return false;
            return 100 * livingAt(place) < settings[THINNESS] * sizeAt(place);
        }

        int thinContainers() {
            int thin = 0;
            for (int place = 0; place < containers; place++) {
                if (isThin(place)) thin++;
            }
            return thin;
        }

        int roomInLast() {
            int last = containers - 1;
            return last >= 0 ? capacities[last] - (entries - firsts[last]) : 0;
        }

        /** Puts a chunk away as the last entry and returns that entry. */
        int putAway(int code) {
            if (roomInLast() <= 0) openContainer();
            if (entries >= MOST_ENTRIES) return NONE;
            codes[entries] = code;
            places[entries] = containers - 1;
            uses[entries] = 0;
            entries++;
            return entries - 1;
        }

        private void openContainer() {
            if (containers >= MOST_CONTAINERS) return;
            numbers[containers] = nextNumber;
            capacities[containers] = settings[CAPACITY];
            firsts[containers] = entries;
            nextNumber++;
            containers++;
        }

        // -- entries

        boolean hasEntry(int entry) {
            return entry >= 0 && entry < entries;
        }

        int codeOfEntry(int entry) {
            return hasEntry(entry) ? codes[entry] : Letters.EMPTY;
        }

        int placeOfEntry(int entry) {
            return hasEntry(entry) ? places[entry] : NONE;
        }

        int usesOfEntry(int entry) {
            return hasEntry(entry) ? uses[entry] : 0;
        }

        int living() {
            int living = 0;
            for (int e = 0; e < entries; e++) {
                if (uses[e] > 0) living++;
            }
            return living;
        }

        int entriesWith(int code) {
            int found = 0;
            for (int e = 0; e < entries; e++) {
                if (codes[e] == code) found++;
            }
            return found;
        }

        int unlikeChunks() {
            int unlike = 0;
            for (int e = 0; e < entries; e++) {
                if (firstFrom(codes[e], 0) == e) unlike++;
            }
            return unlike;
        }

        int allLetters() {
            int letters = 0;
            for (int e = 0; e < entries; e++) letters += Letters.count(codes[e]);
            return letters;
        }

        /** The place of the last container that has the chunk, NONE if none has it. */
        int homeOf(int code) {
            for (int e = entries - 1; e >= 0; e--) {
                if (codes[e] == code) return places[e];
            }
            return NONE;
        }

        int firstEntryWith(int code, int place) {
            return firstFrom(code, firstEntryAt(place));
        }

        private int firstFrom(int code, int start) {
            for (int e = Math.max(0, start); e < entries; e++) {
                if (codes[e] == code) return e;
            }
            return NONE;
        }

        // -- backups

        boolean hasBackup(int b) {
            return b >= 0 && b < MOST_BACKUPS && lengths[b] > 0;
        }

        int chunksOf(int b) {
            return hasBackup(b) ? lengths[b] : 0;
        }

        int backups() {
            int backups = 0;
            for (int b = 0; b < MOST_BACKUPS; b++) {
                if (lengths[b] > 0) backups++;
            }
            return backups;
        }

        int allReferences() {
            int sum = 0;
            for (int b = 0; b < MOST_BACKUPS; b++) sum += lengths[b];
            return sum;
        }

        int entryReferred(int b, int i) {
            if (i < 0 || i >= chunksOf(b)) return NONE;
            return references[b * MOST_CHUNKS + i];
        }

        int lettersOf(int b) {
            int letters = 0;
            for (int i = 0; i < chunksOf(b); i++) {
                letters += Letters.count(codeOfEntry(entryReferred(b, i)));
            }
            return letters;
        }

        int signOf(int b, int index) {
            int before = 0;
            for (int i = 0; i < chunksOf(b); i++) {
                int code = codeOfEntry(entryReferred(b, i));
                int count = Letters.count(code);
                if (index - before < count) return Letters.sign(code, index - before);
                before += count;
            }
            return NONE;
        }

        int containersOf(int b) {
            int found = 0;
            for (int place = 0; place < containers; place++) {
                if (refersTo(b, place)) found++;
            }
            return found;
        }

        int backupsReferringTo(int place) {
            int found = 0;
            for (int b = 0; b < MOST_BACKUPS; b++) {
                if (refersTo(b, place)) found++;
            }
            return found;
        }

        private boolean refersTo(int b, int place) {
            for (int i = 0; i < chunksOf(b); i++) {
                if (placeOfEntry(entryReferred(b, i)) == place) return true;
            }
            return false;
        }

        void passThrough(int b, Store store) {
            for (int i = 0; i < chunksOf(b); i++) store.use(placeOfEntry(entryReferred(b, i)));
        }

        int dyingWith(int b) {
            int dying = 0;
            for (int i = 0; i < chunksOf(b); i++) {
                if (isLastReferrer(b, i)) dying++;
            }
            return dying;
        }

        /** Whether reference i is the last one of b to its entry, and no other backup has one. */
        private boolean isLastReferrer(int b, int i) {
            int entry = entryReferred(b, i);
            int own = 0;
            for (int j = 0; j < chunksOf(b); j++) {
                if (entryReferred(b, j) != entry) continue;
                if (j > i) return false;
                own++;
            }
            return own == usesOfEntry(entry);
        }

        boolean allows(Plan plan) {
            return freeBackup() != NONE
                && containers + plan.newContainers <= MOST_CONTAINERS_BEHIND_A_BACKUP;
        }

        private int freeBackup() {
            for (int b = 0; b < MOST_BACKUPS; b++) {
                if (lengths[b] == 0) return b;
            }
            return NONE;
        }

        /** Makes the planned backup and returns its number; allows(plan) was asked before. */
        int addBackup(Plan plan, Stream stream) {
            int b = freeBackup();
            if (b == NONE) return NONE;
            for (int i = 0; i < plan.chunks; i++) {
                if (plan.entries[i] == entries) putAway(stream.codeAt(i));
                references[b * MOST_CHUNKS + i] = plan.entries[i];
                if (hasEntry(plan.entries[i])) uses[plan.entries[i]]++;
            }
            lengths[b] = plan.chunks;
            return b;
        }

        /** Deletes a backup and returns how many entries die with it. */
        int removeBackup(int b) {
            int dying = 0;
            for (int i = 0; i < chunksOf(b); i++) {
                int entry = entryReferred(b, i);
                if (!hasEntry(entry)) continue;
                uses[entry]--;
                if (uses[entry] == 0) dying++;
            }
            if (hasBackup(b)) lengths[b] = 0;
            return dying;
        }

        /** Lets the references follow their entries to where these went. */
        void redirect(int[] goesTo) {
            for (int e = 0; e < entries; e++) uses[e] = 0;
            for (int b = 0; b < MOST_BACKUPS; b++) {
                for (int i = 0; i < lengths[b]; i++) {
                    int from = references[b * MOST_CHUNKS + i];
                    if (from < 0 || from >= goesTo.length) continue;
                    int to = goesTo[from];
                    references[b * MOST_CHUNKS + i] = to;
                    if (hasEntry(to)) uses[to]++;
                }
            }
        }
    }

    /**
     * Carries thin containers forward. All of them are taken out of the row before any entry is
     * put away anew: the last container is never thin, so the entries find the same places, and
     * the row never grows beyond its length.
     */
    private static final class Carrier {
        final boolean[] thin = new boolean[MOST_CONTAINERS];
        /** The entry that follows on each old one. */
        final int[] goesTo = new int[MOST_ENTRIES];
        /** The living entries of thin containers, and their chunks. */
        final int[] waiting = new int[MOST_ENTRIES];
        final int[] waitingCodes = new int[MOST_ENTRIES];
        int waitingCount;

        /** Returns how many entries are put away anew. */
        int carryForward(Desk desk) {
            for (int p = 0; p < desk.containers; p++) thin[p] = desk.isThin(p);
            collectWaiting(desk);
            takeOutThin(desk);
            for (int i = 0; i < waitingCount; i++) leads(waiting[i], desk.putAway(waitingCodes[i]));
            desk.redirect(goesTo);
            desk.carried += waitingCount;
            return waitingCount;
        }

        private void collectWaiting(Desk desk) {
            waitingCount = 0;
            for (int p = 0; p < desk.containers; p++) {
                if (thin[p]) collectLiving(desk, desk.firstEntryAt(p), desk.firstEntryAt(p + 1));
            }
        }

        private void collectLiving(Desk desk, int start, int end) {
            for (int e = start; e < end; e++) {
                if (desk.usesOfEntry(e) == 0 || waitingCount >= waiting.length) continue;
                waiting[waitingCount] = e;
                waitingCodes[waitingCount] = desk.codeOfEntry(e);
                waitingCount++;
            }
        }

        private void leads(int from, int to) {
            if (from >= 0 && from < goesTo.length) goesTo[from] = to;
        }

        private void takeOutThin(Desk desk) {
            int oldContainers = desk.containers;
            int oldEntries = desk.entries;
            int entry = 0;
            desk.containers = 0;
            desk.entries = 0;
            for (int p = 0; p < oldContainers; p++) {
                int end = p + 1 < oldContainers ? desk.firsts[p + 1] : oldEntries;
                if (!thin[p]) keepContainer(desk, p, entry, end);
                entry = end;
            }
        }

        /** Moves a container down the row; what it overwrites has been moved before. */
        private void keepContainer(Desk desk, int place, int start, int end) {
            int to = desk.containers;
            desk.numbers[to] = desk.numbers[place];
            desk.capacities[to] = desk.capacities[place];
            desk.firsts[to] = desk.entries;
            desk.containers++;
            for (int e = start; e < end; e++) {
                desk.codes[desk.entries] = desk.codes[e];
                desk.places[desk.entries] = to;
                goesTo[e] = desk.entries;
                desk.entries++;
            }
        }
    }

    /** The states before the last actions, in a ring whose desks are used again. */
    private static final class Past {
        final Desk[] desks = new Desk[MOST_REMEMBERED];
        int oldest;
        int count;

        void remember(Desk desk) {
            int at = (oldest + count) % MOST_REMEMBERED;
            if (desks[at] == null) desks[at] = new Desk();
            desks[at].copyFrom(desk);
            if (count < MOST_REMEMBERED) count++;
            else oldest = (oldest + 1) % MOST_REMEMBERED;
        }

        /** Sets a desk to the state that was remembered last, which is forgotten then. */
        void takeBack(Desk desk) {
            if (count == 0) return;
            count--;
            desk.copyFrom(desks[(oldest + count) % MOST_REMEMBERED]);
        }

        void forget() {
            oldest = 0;
            count = 0;
        }
    }
}
