import java.util.NoSuchElementException;

/**
 * Tests that run again only where they must: texts are read, typed and compiled to bytes, runs of
 * their tests are recorded in a log on a disk of blocks, and only tests whose record doesn't hold
 * any more are run by the next call of run().
 */
public final class SuiteKeeper {
    public static final int NONE = -1;

    private static final int GLOBAL = 0;
    private static final int ARRAY = 1;
    private static final int ROUTINE = 2;
    private static final int TEST = 3;
    private static final int KINDS = 4;
    private static final int TOUCHED_KINDS = 3;

    /** The first byte of an item; that of a global or an array is its kind. */
    private static final int FUNC = 2;
    private static final int PROC = 3;
    private static final int TEST_FORM = 4;

    private static final int INT = 0;
    private static final int BOOL = 1;
    private static final int NOTHING = 2;
    /** The type of what has a misfit within it: nothing more is asked of it. */
    private static final int ANY = 3;

    private static final int MOST_SIGNS = 1500;
    private static final int MOST_LETTERS = 8;
    private static final int MOST_DIGITS = 6;
    private static final int MOST_GLOBALS = 10;
    private static final int MOST_ARRAYS = 4;
    private static final int MOST_CELLS = 32;
    private static final int MOST_ROUTINES = 16;
    private static final int MOST_TESTS = 12;
    private static final int MOST_ITEMS = 42;
    private static final int MOST_NEEDED = 30;
    private static final int MOST_PARAMETERS = 4;
    private static final int MOST_LOCALS = 10;
    private static final int MOST_OPEN = 12;
    /** A sign of a text makes at most some three bytes, so this is above what 1500 can make. */
    private static final int MOST_BYTES = 6144;
    private static final int MISFIT = 5000;

    private static final int FUEL = 3000;
    private static final int MOST_CALLS = 20;
    /** Above 20 calls and a test of some hundred values each, twelve nestings deep. */
    private static final int MOST_VALUES = 2200;
    /** Far above what 3000 rounds and calls of 1500 signs can do. */
    private static final int MOST_STEPS = 100_000_000;
    private static final int MOST_STEPS_A_CALL = 100_000;

    private static final int CAME_TO_END = 0;
    private static final int CHECK_FALSE = 1;
    private static final int DIVIDED_BY_ZERO = 2;
    private static final int NO_FUEL = 3;
    private static final int TOO_MANY_CALLS = 4;
    private static final int NO_CELL = 5;

    private static final int BLOCK = 64;
    private static final int BLOCK_HEAD = 3;
    private static final int BLOCK_ROOM = 61;
    private static final int HALF_BLOCKS = 128;
    /** Above how many blocks are written when a log is made anew: its half and the other's head. */
    private static final int MOST_ANEW = 256;
    private static final int HALF = 8192;
    private static final int DISK = 16384;
    private static final int MOST_LOG = 7747;
    private static final int LAST_EPOCH = 65535;
    /** Above how many of the shortest entries, of 9 and of 16 bytes, a log can have. */
    private static final int MOST_ENTRIES = 900;
    private static final int MOST_RECORDS = 500;
    private static final int ITEM_ENTRY = 1;
    private static final int RECORD_ENTRY = 2;
    private static final int MOST_WORKERS = 64;

    private static final int END_TOKEN = 0;
    private static final int BAD_TOKEN = 1;
    private static final int NAME = 2;
    private static final int NUMBER = 3;
    /** Tokens of one sign are that sign; these lie above all signs. */
    private static final int SAME_SIGN = 256;
    private static final int UNLIKE_SIGN = 257;
    private static final int MOST_SIGN = 258;
    private static final int FIRST_WORD = 300;
    private static final int INT_WORD = 305;
    private static final int BOOL_WORD = 306;
    private static final int LET_WORD = 307;
    private static final int IF_WORD = 308;
    private static final int ELSE_WORD = 309;
    private static final int WHILE_WORD = 310;
    private static final int BREAK_WORD = 311;
    private static final int CONTINUE_WORD = 312;
    private static final int RETURN_WORD = 313;
    private static final int CHECK_WORD = 314;
    private static final int TRUE_WORD = 315;
    private static final int FALSE_WORD = 316;
    private static final int WORD_COUNT = 17;
    /** In the order of the tokens above; the first five in the order of an item's first byte. */
    private static final String WORDS =
            "global array func proc test int bool let if else while break continue return check true false ";
    private static final String SINGLE_SIGNS = "(){}[],;:=<+-*/%&|!";

    private static final int PUSH_INT = 1;
    private static final int PUSH_TRUE = 2;
    private static final int PUSH_FALSE = 3;
    private static final int LOCAL = 4;
    private static final int SET_LOCAL = 5;
    private static final int READ = 6;
    private static final int WRITE = 7;
    private static final int CELL = 8;
    private static final int SET_CELL = 9;
    private static final int CALL = 10;
    private static final int GIVE = 11;
    private static final int RETURN = 12;
    private static final int END = 13;
    private static final int JUMP = 14;
    private static final int UNLESS = 15;
    private static final int ROUND = 16;
    private static final int CHECK = 17;
    private static final int DROP = 18;
    private static final int MINUS = 19;
    private static final int NOT = 20;
    private static final int OR = 21;
    private static final int AND = 22;
    private static final int SAME = 23;
    private static final int UNLIKE = 24;
    private static final int BELOW = 25;
    private static final int MOST = 26;
    private static final int PLUS = 27;
    private static final int LESS = 28;
    private static final int TIMES = 29;
    private static final int OVER = 30;
    private static final int REST = 31;
    private static final String CODE_WORDS =
            "int true false local set read write cell put call give return end jump unless round check drop minus not or and same unlike below most plus less times over rest";
    /** How many bytes stand behind each byte of code. */
    private static final int[] WIDTHS = {
        0, 4, 0, 0, 1, 1, 1, 1, 1, 1, 1, 0, 0, 0, 2, 2, 0, 1, 0, 0, 0, 0, 0, 0, 0, 0, 0, 0, 0, 0, 0, 0
    };

    private final Tokens tokens;
    private final Reader reader;
    private final Listing lister;
    private final Machine runner;
    private final Machine tracer;
    private final Crew crew;
    private final Store store;
    /** The revision, the one ahead of it, and one to read the next text into: they take turns. */
    private Revision current;
    private Revision ahead;
    private Revision spare;
    private int revisions;
    private boolean tracing;
    private int lastRecordedEnd;

    public SuiteKeeper() {
        tokens = new Tokens();
        reader = new Reader(tokens);
        lister = new Listing();
        runner = new Machine();
        tracer = new Machine();
        crew = new Crew();
        store = new Store();
        current = new Revision();
        ahead = new Revision();
        spare = new Revision();
    }

    public int put(int signs) throws IllegalArgumentException, UnsupportedOperationException {
        int more = 0;
        for (int k = 0; k < 4; k++) {
            int sign = (signs >>> (8 * k)) & 255;
            if (sign != 0) {
                if (sign != '\n' && (sign < 32 || sign > 126)) {
                    throw new IllegalArgumentException("no sign of a text");
                }
                more++;
            }
        }
        if (tokens.size + more > MOST_SIGNS) {
            throw new UnsupportedOperationException("too many signs");
        }
        for (int k = 0; k < 4; k++) {
            int sign = (signs >>> (8 * k)) & 255;
            if (sign != 0) {
                tokens.append(sign);
            }
        }
        return tokens.size;
    }

    public void end(int n) throws IllegalArgumentException {
        if (n < 0 || n > tokens.size) {
            throw new IllegalArgumentException("not so many signs");
        }
        tokens.size = n;
    }

    public int load() {
        tokens.scan();
        int answer = NONE;
        if (!reader.goOver(spare, false)) {
            answer = tokens.place;
        } else if (!reader.goOver(spare, true)) {
            answer = tokens.place;
        } else if (reader.misfit != NONE) {
            answer = MISFIT + reader.misfit;
        }
        tokens.size = 0;
        if (answer == NONE) {
            takeRevision();
        }
        return answer;
    }

    private void takeRevision() {
        Revision oldest = ahead;
        ahead = current;
        current = spare;
        spare = oldest;
        revisions++;
        tracing = false;
        crew.forget();
    }

    public int about(int what) throws IllegalStateException, IllegalArgumentException {
        needRevision();
        switch (what) {
            case 0:
            case 1:
            case 2:
            case 3:
                return current.counted(what);
            case 4:
                return revisions;
            case 5:
                return countPicked();
            case 6:
                return store.recorded;
            case 7:
                return store.written;
            case 8:
                return lastRecordedEnd;
            case 9:
                return store.liveLog().size;
            case 10:
                return store.live;
            case 11:
                return store.liveLog().epoch;
            case 12:
                return countGone();
            case 13:
                return crew.lastEnd();
            case 14:
                return crew.leastTime();
            default:
                throw new IllegalArgumentException("nothing to tell");
        }
    }

    private int countPicked() {
        int picked = 0;
        for (int test = 0; test < current.counted(TEST); test++) {
            Item item = current.find(TEST, test);
            if (item != null && store.reason(current, item) != 0) {
                picked++;
            }
        }
        return picked;
    }

    private int countGone() {
        int count = 0;
        while (count < MOST_ITEMS && goneItem(count) != null) {
            count++;
        }
        return count;
    }

    private Item goneItem(int i) {
        int passed = 0;
        for (int kind = 0; kind < KINDS && revisions > 1; kind++) {
            for (int n = 0; n < ahead.counted(kind); n++) {
                Item item = ahead.find(kind, n);
                if (item != null && current.named(item.name) == null) {
                    if (passed == i) {
                        return item;
                    }
                    passed++;
                }
            }
        }
        return null;
    }

    public int code(int kind, int item, int k) throws IllegalStateException, IndexOutOfBoundsException {
        Item found = needItem(kind, item);
        needIndex(k);
        return k < found.size ? current.at(found.from + k) : NONE;
    }

    public int mark(int kind, int item) throws IllegalStateException, IndexOutOfBoundsException {
        Item found = needItem(kind, item);
        int mark = 1;
        for (int k = 0; k < found.size; k++) {
            mark = 31 * mark + current.at(found.from + k);
        }
        return mark;
    }

    public int change(int kind, int item) throws IllegalStateException, IndexOutOfBoundsException {
        Item found = needItem(kind, item);
        if (revisions < 2) {
            return NONE;
        }
        Item before = ahead.named(found.name);
        if (before == null) {
            return 2;
        }
        return current.hasSame(found, ahead.bytes, before.from, before.size) ? 0 : 1;
    }

    public int gone(int i, int k) throws IllegalStateException, IndexOutOfBoundsException {
        needRevision();
        Item item = goneItem(i);
        if (item == null) {
            throw new IndexOutOfBoundsException("no such item is gone");
        }
        needIndex(k);
        return letterOrNone(item.name, k);
    }

    public int listing(int kind, int item, int i) throws IllegalStateException, IndexOutOfBoundsException {
        Item found = needItem(kind, item);
        if (kind != ROUTINE && kind != TEST) {
            throw new IndexOutOfBoundsException("no code");
        }
        needIndex(i);
        return lister.signAt(current, found, i);
    }

    public int why(int test) throws IllegalStateException, IndexOutOfBoundsException {
        return store.reason(current, needItem(TEST, test));
    }

    public int whyName(int test, int k)
            throws IllegalStateException, IndexOutOfBoundsException, NoSuchElementException {
        Item item = needItem(TEST, test);
        needIndex(k);
        int reason = store.reason(current, item);
        if (reason < 3) {
            throw new NoSuchElementException("no item");
        }
        return letterOrNone(store.touchedName(item, reason - 3), k);
    }

    public void trace(int test) throws IllegalStateException, IndexOutOfBoundsException {
        tracer.begin(current, needItem(TEST, test));
        tracing = true;
    }

    public int step(int n) throws IllegalStateException, IllegalArgumentException {
        needTrace();
        if (n < 0 || n > MOST_STEPS_A_CALL) {
            throw new IllegalArgumentException("no such number of steps");
        }
        return tracer.go(n);
    }

    public int traced(int what) throws IllegalStateException, IllegalArgumentException {
        needTrace();
        switch (what) {
            case 0:
                return tracer.ending;
            case 1:
                return tracer.fuel;
            case 2:
                return tracer.open;
            case 3:
                return tracer.workRoutine();
            case 4:
                return tracer.workPlace();
            case 5:
                return tracer.workValues();
            case 6:
                return tracer.steps;
            default:
                throw new IllegalArgumentException("nothing to tell");
        }
    }

    public int value(int k) throws IllegalStateException, IndexOutOfBoundsException {
        needTrace();
        if (k < 0 || k >= tracer.workValues()) {
            throw new IndexOutOfBoundsException("no such value");
        }
        return tracer.valueBelow(k);
    }

    public int local(int k) throws IllegalStateException, IndexOutOfBoundsException {
        needTrace();
        if (k < 0 || k >= tracer.workLocals()) {
            throw new IndexOutOfBoundsException("no such local");
        }
        return tracer.localAt(k);
    }

    public int global(int k) throws IllegalStateException, IndexOutOfBoundsException {
        needTrace();
        if (k < 0 || k >= current.counted(GLOBAL)) {
            throw new IndexOutOfBoundsException("no such global");
        }
        return tracer.globalAt(k);
    }

    public int cell(int array, int k) throws IllegalStateException, IndexOutOfBoundsException {
        needTrace();
        Item item = current.find(ARRAY, array);
        if (item == null || k < 0 || k >= item.start) {
            throw new IndexOutOfBoundsException("no such cell");
        }
        return tracer.cellAt(array, k);
    }

    public boolean touches(int kind, int k) throws IllegalStateException, IndexOutOfBoundsException {
        needTrace();
        if (kind < 0 || kind >= TOUCHED_KINDS || current.find(kind, k) == null) {
            throw new IndexOutOfBoundsException("no such item");
        }
        return tracer.hasTouched(kind, k);
    }

    public int disk(int k) throws IndexOutOfBoundsException {
        if (k < 0 || k >= DISK) {
            throw new IndexOutOfBoundsException("no such byte");
        }
        return byteAt(store.blocks, k);
    }

    public int run(int workers, int most) throws IllegalStateException, IllegalArgumentException {
        needRevision();
        if (workers < 1 || workers > MOST_WORKERS || most < 0) {
            throw new IllegalArgumentException("no such run");
        }
        planRuns(workers);
        store.allow(most);
        lastRecordedEnd = 0;
        int recorded = 0;
        for (int n = 0; n < crew.count && !store.crashed; n++) {
            Slot slot = crew.nextEnded();
            if (slot != null && store.keep(current, slot, revisions)) {
                slot.recorded = true;
                lastRecordedEnd = slot.ended;
                recorded++;
            }
        }
        if (store.crashed) {
            store.recover(current);
        }
        return recorded;
    }

    private void planRuns(int workers) {
        crew.gather(workers);
        for (int test = 0; test < current.counted(TEST); test++) {
            Item item = current.find(TEST, test);
            if (item != null && store.reason(current, item) != 0) {
                crew.add(item, store.estimate(item));
            }
        }
        for (int i = 0; i < crew.count; i++) {
            Slot slot = crew.slotAt(i);
            if (slot != null && slot.test != null) {
                runner.begin(current, slot.test);
                runner.go(MOST_STEPS);
                slot.take(runner);
                crew.assign(slot);
            }
        }
    }

    public int slot(int i, int what)
            throws IllegalStateException, IndexOutOfBoundsException, IllegalArgumentException {
        needRevision();
        if (!crew.ran) {
            throw new IllegalStateException("no run in this revision");
        }
        Slot slot = crew.slotAt(i);
        if (slot == null || slot.test == null) {
            throw new IndexOutOfBoundsException("no such slot");
        }
        switch (what) {
            case 0:
                return slot.test.number;
            case 1:
                return slot.worker;
            case 2:
                return slot.began;
            case 3:
                return slot.ended;
            case 4:
                return slot.recorded ? 1 : 0;
            default:
                throw new IllegalArgumentException("nothing to tell");
        }
    }

    public int verdict(int test) throws IllegalStateException, IndexOutOfBoundsException {
        Item item = needItem(TEST, test);
        return store.reason(current, item) == 0 ? store.outcome.ending : NONE;
    }

    public int record(int test, int what) throws IllegalStateException, IndexOutOfBoundsException,
            NoSuchElementException, IllegalArgumentException {
        Item item = needItem(TEST, test);
        Outcome outcome = needOutcome(item);
        switch (what) {
            case 0:
                return outcome.ending;
            case 1:
                return outcome.ending == CHECK_FALSE ? outcome.checkNumber : NONE;
            case 2:
                return outcome.fuel;
            case 3:
                return outcome.count;
            case 4:
                return outcome.revision;
            case 5:
                return store.reason(current, item) == 0 ? 1 : 0;
            default:
                throw new IllegalArgumentException("nothing to tell");
        }
    }

    public boolean touched(int test, int kind, int k) throws IllegalStateException,
            IndexOutOfBoundsException, NoSuchElementException, IllegalArgumentException {
        Outcome outcome = needOutcome(needItem(TEST, test));
        boolean ofCheck = kind == TOUCHED_KINDS;
        if (ofCheck && k == NONE) {
            return outcome.ending == CHECK_FALSE && outcome.checkEntry == outcome.testEntry;
        }
        Item item = kind < 0 || kind > TOUCHED_KINDS ? null : current.find(ofCheck ? ROUTINE : kind, k);
        if (item == null) {
            throw new IllegalArgumentException("no such kind or item");
        }
        if (ofCheck) {
            return outcome.ending == CHECK_FALSE && store.isEntryOf(outcome.checkEntry, item);
        }
        for (int n = 0; n < outcome.count; n++) {
            if (store.isEntryOf(outcome.entryAt(n), item)) {
                return true;
            }
        }
        return false;
    }

    private void needRevision() {
        if (revisions == 0) {
            throw new IllegalStateException("no revision");
        }
    }

    private void needTrace() {
        if (!tracing) {
            throw new IllegalStateException("no trace");
        }
    }

    private void needIndex(int k) {
        if (k < 0) {
            throw new IndexOutOfBoundsException("below 0");
        }
    }

    private Item needItem(int kind, int number) {
        needRevision();
        Item item = current.find(kind, number);
        if (item == null) {
            throw new IndexOutOfBoundsException("no such item");
        }
        return item;
    }

    private Outcome needOutcome(Item test) {
        if (!store.fetch(test.name)) {
            throw new NoSuchElementException("no record");
        }
        return store.outcome;
    }

    /** Names are longs, eight bits a letter with the first one lowest, so that == compares them. */
    private static int letterAt(long name, int k) {
        return k < 0 || k >= MOST_LETTERS ? 0 : (int) (name >>> (8 * k)) & 255;
    }

    private static int letterOrNone(long name, int k) {
        int letter = letterAt(name, k);
        return letter == 0 ? NONE : letter;
    }

    private static int letterCount(long name) {
        int count = 0;
        while (count < MOST_LETTERS && (name >>> (8 * count)) != 0) {
            count++;
        }
        return count;
    }

    private static long withLetter(long name, int k, int letter) {
        return k < 0 || k >= MOST_LETTERS ? name : name | ((long) (letter & 255) << (8 * k));
    }

    private static int byteAt(byte[] bytes, int k) {
        return k < 0 || k >= bytes.length ? 0 : bytes[k] & 255;
    }

    private static int twoAt(byte[] bytes, int k) {
        return byteAt(bytes, k) | (byteAt(bytes, k + 1) << 8);
    }

    private static boolean sameBytes(byte[] some, int from, byte[] others, int othersFrom, int length) {
        if (from < 0 || othersFrom < 0 || from + length > some.length || othersFrom + length > others.length) {
            return false;
        }
        for (int k = 0; k < length; k++) {
            if (some[from + k] != others[othersFrom + k]) {
                return false;
            }
        }
        return true;
    }

    /** The signs of the text that is put together, and the tokens that they make. */
    private static final class Tokens {
        private final byte[] signs = new byte[MOST_SIGNS];
        private int size;
        private final int[] kinds = new int[MOST_SIGNS + 1];
        private final int[] places = new int[MOST_SIGNS + 1];
        private final long[] values = new long[MOST_SIGNS + 1];
        private int count;
        private int at;
        private final long[] words = new long[WORD_COUNT];
        /** The token at which the reader is. */
        private int token;
        private int place;
        private long name;
        private int number;

        Tokens() {
            int word = 0;
            int letters = 0;
            for (int k = 0; k < WORDS.length(); k++) {
                char sign = WORDS.charAt(k);
                if (sign == ' ') {
                    word++;
                    letters = 0;
                } else if (word < words.length) {
                    words[word] = withLetter(words[word], letters, sign);
                    letters++;
                }
            }
        }

        void append(int sign) {
            if (size >= 0 && size < signs.length) {
                signs[size] = (byte) sign;
                size++;
            }
        }

        private int signAt(int k) {
            return k >= size ? 0 : byteAt(signs, k);
        }

        void scan() {
            count = 0;
            int from = behindBlanks(0);
            for (int n = 0; n < MOST_SIGNS && from < size; n++) {
                from = behindBlanks(from + scanToken(from));
            }
            add(END_TOKEN, size, 0);
        }

        private int behindBlanks(int from) {
            boolean comment = false;
            for (int k = from; k < size; k++) {
                int sign = signAt(k);
                if (sign == '\n') {
                    comment = false;
                } else if (sign == '#') {
                    comment = true;
                } else if (!comment && sign != ' ') {
                    return k;
                }
            }
            return size;
        }

        /** How many signs the token has. */
        private int scanToken(int from) {
            int sign = signAt(from);
            if (isLetter(sign)) {
                return scanName(from);
            }
            if (isDigit(sign)) {
                return scanNumber(from);
            }
            boolean two = signAt(from + 1) == '=' && (sign == '=' || sign == '!' || sign == '<');
            if (two) {
                add(sign == '=' ? SAME_SIGN : sign == '!' ? UNLIKE_SIGN : MOST_SIGN, from, 0);
            } else {
                add(SINGLE_SIGNS.indexOf((char) sign) < 0 ? BAD_TOKEN : sign, from, 0);
            }
            return two ? 2 : 1;
        }

        private int scanName(int from) {
            int length = 0;
            long letters = 0;
            while (length < MOST_SIGNS && isLetter(signAt(from + length))) {
                letters = withLetter(letters, length, signAt(from + length));
                length++;
            }
            add(length > MOST_LETTERS ? BAD_TOKEN : nameOrWord(letters), from, letters);
            return length;
        }

        private int nameOrWord(long letters) {
            for (int word = 0; word < words.length; word++) {
                if (words[word] == letters) {
                    return FIRST_WORD + word;
                }
            }
            return NAME;
        }

        private int scanNumber(int from) {
            int length = 0;
            int sum = 0;
            while (length < MOST_SIGNS && isDigit(signAt(from + length))) {
                sum = 10 * sum + signAt(from + length) - '0';
                length++;
            }
            add(length > MOST_DIGITS ? BAD_TOKEN : NUMBER, from, sum);
            return length;
        }

        private static boolean isLetter(int sign) {
            return sign >= 'a' && sign <= 'z';
        }

        private static boolean isDigit(int sign) {
            return sign >= '0' && sign <= '9';
        }

        private void add(int kind, int from, long worth) {
            if (count >= 0 && count < kinds.length) {
                kinds[count] = kind;
                places[count] = from;
                values[count] = worth;
                count++;
            }
        }

        void rewind() {
            at = NONE;
            next();
        }

        /** The end stays when there is nothing behind it. */
        void next() {
            if (at + 1 < count) {
                at++;
            }
            if (at >= 0 && at < kinds.length) {
                token = kinds[at];
                place = places[at];
                name = values[at];
                number = (int) values[at];
            }
        }
    }

    /** A global, an array, a routine or a test of a revision. */
    private static final class Item {
        private int form;
        private int kind;
        private int number;
        private int order;
        private long name;
        private int parameters;
        private final int[] parameterTypes = new int[MOST_PARAMETERS];
        /** Of a global its type, of a routine what it gives. */
        private int type;
        /** Of a global its number at first, of an array how many cells it has. */
        private int start;
        private int locals;
        private int from;
        private int size;
        private int codeFrom;
        private int codeSize;
        private int needs;
        private final Item[] needed = new Item[MOST_NEEDED];

        void declare(int itsForm, long itsName, int itsKind, int itsNumber, int itsOrder) {
            form = itsForm;
            name = itsName;
            kind = itsKind;
            number = itsNumber;
            order = itsOrder;
            parameters = 0;
            type = NOTHING;
            start = 0;
            locals = 0;
            from = 0;
            size = 0;
            codeFrom = 0;
            codeSize = 0;
            needs = 0;
        }

        void addParameter(int parameterType) {
            if (parameters >= 0 && parameters < parameterTypes.length) {
                parameterTypes[parameters] = parameterType;
                parameters++;
            }
        }

        int parameterType(int k) {
            return k < 0 || k >= parameters || k >= parameterTypes.length ? ANY : parameterTypes[k];
        }

        Item neededAt(int k) {
            return k < 0 || k >= needs || k >= needed.length ? null : needed[k];
        }

        /** The number by which this item's code tells the other one. */
        int need(Item other) {
            for (int k = 0; k < needs && k < needed.length; k++) {
                if (needed[k] == other) {
                    return k;
                }
            }
            if (needs >= 0 && needs < needed.length) {
                needed[needs] = other;
                needs++;
            }
            return needs - 1;
        }
    }

    /** The items of a text, with the bytes that they are compiled to. */
    private static final class Revision {
        private final byte[] bytes = new byte[MOST_BYTES];
        private int size;
        private final Item[] items = new Item[MOST_ITEMS];
        private int count;
        private final int[] counts = new int[KINDS];

        Revision() {
            for (int k = 0; k < items.length; k++) {
                items[k] = new Item();
            }
        }

        void clear() {
            size = 0;
            count = 0;
            for (int kind = 0; kind < counts.length; kind++) {
                counts[kind] = 0;
            }
        }

        int counted(int kind) {
            return kind < 0 || kind >= counts.length ? 0 : counts[kind];
        }

        Item inOrder(int order) {
            return order < 0 || order >= count || order >= items.length ? null : items[order];
        }

        Item find(int kind, int number) {
            for (int k = 0; k < count && k < items.length; k++) {
                if (items[k].kind == kind && items[k].number == number) {
                    return items[k];
                }
            }
            return null;
        }

        Item named(long name) {
            for (int k = 0; k < count && k < items.length; k++) {
                if (items[k].name == name) {
                    return items[k];
                }
            }
            return null;
        }

        /** Null if there is one of that name, or as many of that kind as there may be. */
        Item declare(int form, long name) {
            int kind = form <= FUNC ? form : form - 1;
            if (named(name) != null || counted(kind) >= mostOf(kind) || count >= items.length) {
                return null;
            }
            Item item = items[count];
            item.declare(form, name, kind, counts[kind], count);
            counts[kind]++;
            count++;
            return item;
        }

        private static int mostOf(int kind) {
            switch (kind) {
                case GLOBAL:
                    return MOST_GLOBALS;
                case ARRAY:
                    return MOST_ARRAYS;
                case ROUTINE:
                    return MOST_ROUTINES;
                case TEST:
                    return MOST_TESTS;
                default:
                    return 0;
            }
        }

        int at(int k) {
            return byteAt(bytes, k);
        }

        int numberAt(int k, int width) {
            int number = 0;
            for (int n = 0; n < width; n++) {
                number |= byteAt(bytes, k + n) << (8 * n);
            }
            return number;
        }

        void write(int number, int width) {
            for (int n = 0; n < width; n++) {
                if (size >= 0 && size < bytes.length) {
                    bytes[size] = (byte) (number >>> (8 * n));
                    size++;
                }
            }
        }

        void patch(int k, int number, int width) {
            for (int n = 0; n < width; n++) {
                if (k + n >= 0 && k + n < bytes.length) {
                    bytes[k + n] = (byte) (number >>> (8 * n));
                }
            }
        }

        boolean hasSame(Item item, byte[] others, int from, int length) {
            return item.size == length && sameBytes(bytes, item.from, others, from, length);
        }
    }

    /**
     * Goes over the tokens twice: first for the fault and all items' heads, then, as items may be
     * used ahead of their place, for misfits and code.
     */
    private static final class Reader {
        private static final int FACTOR_LEVEL = 5;
        private static final int COMPARISON_LEVEL = 2;
        /** Above how often "break;" can stand in a text. */
        private static final int MOST_BREAKS = 256;

        private final Tokens tokens;
        private Revision revision;
        private Item item;
        private boolean writing;
        private int misfit;
        private int misfits;
        private final long[] localNames = new long[MOST_LOCALS];
        private final int[] localTypes = new int[MOST_LOCALS];
        private int locals;
        private int open;
        private int checks;
        /** Where the innermost while's expression begins, NONE outside of one. */
        private int loopStart;
        private final int[] breakPlaces = new int[MOST_BREAKS];
        private int breaks;

        Reader(Tokens itsTokens) {
            tokens = itsTokens;
        }

        /** Whether there is no fault; if there is one, the tokens stand at it. */
        boolean goOver(Revision into, boolean write) {
            revision = into;
            writing = write;
            misfit = NONE;
            misfits = 0;
            if (!write) {
                into.clear();
            }
            tokens.rewind();
            try {
                readItem(0);
                for (int order = 1; order <= MOST_ITEMS && tokens.token != END_TOKEN; order++) {
                    readItem(order);
                }
            } catch (IllegalStateException fault) {
                return false;
            }
            return true;
        }

        private void need(boolean canCome) {
            if (!canCome) {
                throw new IllegalStateException("fault");
            }
        }

        private void take(int token) {
            if (tokens.token != token) {
                throw new IllegalStateException("fault");
            }
            tokens.next();
        }

        private void takeOpening(int token) {
            if (tokens.token != token || open >= MOST_OPEN) {
                throw new IllegalStateException("fault");
            }
            open++;
            tokens.next();
        }

        private void takeClosing(int token) {
            if (tokens.token != token) {
                throw new IllegalStateException("fault");
            }
            open--;
            tokens.next();
        }

        private void readItem(int order) {
            int form = tokens.token - FIRST_WORD;
            need(form >= GLOBAL && form <= TEST_FORM);
            tokens.next();
            need(tokens.token == NAME);
            item = writing ? revision.inOrder(order) : revision.declare(form, tokens.name);
            need(item != null);
            tokens.next();
            open = 0;
            if (form == GLOBAL) {
                readGlobal();
            } else if (form == ARRAY) {
                readArray();
            } else {
                readHead();
                block();
                writeTail();
            }
        }

        private void readGlobal() {
            take(':');
            item.type = takeType();
            take('=');
            int place = tokens.place;
            boolean minus = tokens.token == '-';
            if (minus) {
                tokens.next();
            }
            boolean isInt = tokens.token == NUMBER;
            need(isInt || (!minus && (tokens.token == TRUE_WORD || tokens.token == FALSE_WORD)));
            int number = isInt ? tokens.number : tokens.token == TRUE_WORD ? 1 : 0;
            item.start = minus ? -number : number;
            tokens.next();
            take(';');
            fit(isInt ? INT : BOOL, item.type, place);
            beginBytes();
            write(item.type, 1);
            write(item.start, 4);
            item.size = revision.size - item.from;
        }

        private void readArray() {
            takeOpening('[');
            need(tokens.token == NUMBER && tokens.number >= 1 && tokens.number <= MOST_CELLS);
            item.start = tokens.number;
            tokens.next();
            takeClosing(']');
            take(';');
            beginBytes();
            write(item.start, 1);
            item.size = revision.size - item.from;
        }

        private void beginBytes() {
            item.from = revision.size;
            write(item.form, 1);
        }

        private int takeType() {
            int token = tokens.token;
            need(token == INT_WORD || token == BOOL_WORD);
            tokens.next();
            return token == INT_WORD ? INT : BOOL;
        }

        /** What stands ahead of a routine's or test's block, and the bytes ahead of its code. */
        private void readHead() {
            locals = 0;
            checks = 0;
            breaks = 0;
            loopStart = NONE;
            item.needs = 0;
            item.parameters = 0;
            if (item.form != TEST_FORM) {
                readParameters();
            }
            if (item.form == FUNC) {
                take(':');
                item.type = takeType();
            }
            beginBytes();
            write(item.parameters, 1);
            for (int k = 0; k < item.parameters; k++) {
                write(item.parameterType(k), 1);
            }
            write(item.type, 1);
            write(0, 3);
            item.codeFrom = revision.size;
        }

        private void readParameters() {
            takeOpening('(');
            boolean more = tokens.token != ')';
            for (int n = 0; more && n <= MOST_PARAMETERS; n++) {
                need(n < MOST_PARAMETERS && isNewLocal());
                long name = tokens.name;
                tokens.next();
                take(':');
                int type = takeType();
                item.addParameter(type);
                addLocal(name, type);
                more = tokens.token == ',';
                if (more) {
                    tokens.next();
                }
            }
            takeClosing(')');
        }

        private boolean isNewLocal() {
            if (tokens.token != NAME || locals >= MOST_LOCALS || localNamed(tokens.name) != NONE) {
                return false;
            }
            Item other = revision.named(tokens.name);
            return other == null || other.order > item.order;
        }

        private int localNamed(long name) {
            for (int k = 0; k < locals && k < localNames.length; k++) {
                if (localNames[k] == name) {
                    return k;
                }
            }
            return NONE;
        }

        private int localType(int k) {
            return k < 0 || k >= localTypes.length ? ANY : localTypes[k];
        }

        private void addLocal(long name, int type) {
            if (locals >= 0 && locals < localNames.length && locals < localTypes.length) {
                localNames[locals] = name;
                localTypes[locals] = type;
                locals++;
            }
        }

        private void writeTail() {
            if (item.form == FUNC) {
                if (item.type == BOOL) {
                    write(PUSH_FALSE, 1);
                } else {
                    write(PUSH_INT, 1);
                    write(0, 4);
                }
                write(GIVE, 1);
            } else {
                write(item.form == PROC ? RETURN : END, 1);
            }
            item.locals = locals;
            item.codeSize = revision.size - item.codeFrom;
            if (writing) {
                revision.patch(item.codeFrom - 3, locals, 1);
                revision.patch(item.codeFrom - 2, item.codeSize, 2);
            }
            write(item.needs, 1);
            for (int k = 0; k < item.needs; k++) {
                writeName(item.neededAt(k));
            }
            item.size = revision.size - item.from;
        }

        private void writeName(Item other) {
            if (other != null) {
                int letters = letterCount(other.name);
                write(other.form, 1);
                write(letters, 1);
                for (int k = 0; k < letters; k++) {
                    write(letterAt(other.name, k), 1);
                }
            }
        }

        private void block() {
            takeOpening('{');
            for (int n = 0; n < MOST_SIGNS && tokens.token != '}'; n++) {
                statement();
            }
            takeClosing('}');
        }

        private void statement() {
            switch (tokens.token) {
                case NAME:
                    namedStatement();
                    break;
                case LET_WORD:
                    letStatement();
                    break;
                case IF_WORD:
                    ifStatement();
                    break;
                case WHILE_WORD:
                    whileStatement();
                    break;
                case BREAK_WORD:
                case CONTINUE_WORD:
                    leaveStatement();
                    break;
                case RETURN_WORD:
                    returnStatement();
                    break;
                default:
                    take(CHECK_WORD);
                    wantedExpression(BOOL);
                    take(';');
                    write(CHECK, 1);
                    write(checks, 1);
                    checks++;
                    break;
            }
        }

        private void namedStatement() {
            long name = tokens.name;
            int place = tokens.place;
            tokens.next();
            if (tokens.token == '(') {
                callRoutine(name, place, true);
            } else if (tokens.token == '[') {
                Item array = indexedArray(name, place);
                take('=');
                wantedExpression(INT);
                writeNamed(SET_CELL, array);
            } else if (localNamed(name) != NONE) {
                int number = localNamed(name);
                take('=');
                wantedExpression(localType(number));
                write(SET_LOCAL, 1);
                write(number, 1);
            } else {
                Item other = meant(revision.named(name), GLOBAL, place);
                take('=');
                wantedExpression(other == null ? ANY : other.type);
                writeNamed(WRITE, other);
            }
            take(';');
        }

        private void letStatement() {
            tokens.next();
            need(isNewLocal());
            long name = tokens.name;
            tokens.next();
            take('=');
            int type = expression(0);
            take(';');
            write(SET_LOCAL, 1);
            write(locals, 1);
            addLocal(name, type);
        }

        private void ifStatement() {
            tokens.next();
            condition();
            int over = writeJump(UNLESS, 0);
            block();
            if (tokens.token == ELSE_WORD) {
                tokens.next();
                int behind = writeJump(JUMP, 0);
                land(over);
                block();
                land(behind);
            } else {
                land(over);
            }
        }

        private void whileStatement() {
            int outerStart = loopStart;
            int outerBreaks = breaks;
            int start = codePlace();
            tokens.next();
            condition();
            int over = writeJump(UNLESS, 0);
            write(ROUND, 1);
            loopStart = start;
            block();
            writeJump(JUMP, start);
            land(over);
            for (int k = outerBreaks; k < breaks && k < breakPlaces.length; k++) {
                land(breakPlaces[k]);
            }
            breaks = outerBreaks;
            loopStart = outerStart;
        }

        private void leaveStatement() {
            need(loopStart != NONE);
            boolean isBreak = tokens.token == BREAK_WORD;
            tokens.next();
            take(';');
            int place = writeJump(JUMP, loopStart);
            if (isBreak && breaks >= 0 && breaks < breakPlaces.length) {
                breakPlaces[breaks] = place;
                breaks++;
            }
        }

        private void returnStatement() {
            need(item.form == FUNC || item.form == PROC);
            tokens.next();
            if (item.form == FUNC) {
                wantedExpression(item.type);
                write(GIVE, 1);
            } else {
                write(RETURN, 1);
            }
            take(';');
        }

        private void condition() {
            takeOpening('(');
            wantedExpression(BOOL);
            takeClosing(')');
        }

        private void wantedExpression(int wanted) {
            int place = tokens.place;
            fit(expression(0), wanted, place);
        }

        /** Levels: | , & , comparisons, sums, products, factors. */
        private int expression(int level) {
            if (level >= FACTOR_LEVEL) {
                return factor();
            }
            int place = tokens.place;
            int before = misfits;
            int type = expression(level + 1);
            int most = level == COMPARISON_LEVEL ? 1 : MOST_SIGNS;
            for (int n = 0; n < most && operation(level) != NONE; n++) {
                int code = operation(level);
                boolean alike = code == SAME || code == UNLIKE;
                int wanted = alike ? type : code <= AND ? BOOL : INT;
                fit(type, wanted, place);
                tokens.next();
                int right = tokens.place;
                fit(expression(level + 1), wanted, right);
                write(code, 1);
                type = misfits == before ? (code <= MOST ? BOOL : INT) : ANY;
            }
            return type;
        }

        /** The code of the sign at hand, if it joins parts of that level. */
        private int operation(int level) {
            int token = tokens.token;
            switch (level) {
                case 0:
                    return token == '|' ? OR : NONE;
                case 1:
                    return token == '&' ? AND : NONE;
                case 2:
                    return token == SAME_SIGN ? SAME : token == UNLIKE_SIGN ? UNLIKE
                            : token == '<' ? BELOW : token == MOST_SIGN ? MOST : NONE;
                case 3:
                    return token == '+' ? PLUS : token == '-' ? LESS : NONE;
                default:
                    return token == '*' ? TIMES : token == '/' ? OVER : token == '%' ? REST : NONE;
            }
        }

        private int factor() {
            int token = tokens.token;
            if (token == '-' || token == '!') {
                return signedFactor(token);
            }
            if (token == NAME) {
                return namedFactor();
            }
            if (token == '(') {
                takeOpening('(');
                int type = expression(0);
                takeClosing(')');
                return type;
            }
            need(token == NUMBER || token == TRUE_WORD || token == FALSE_WORD);
            if (token == NUMBER) {
                write(PUSH_INT, 1);
                write(tokens.number, 4);
            } else {
                write(token == TRUE_WORD ? PUSH_TRUE : PUSH_FALSE, 1);
            }
            tokens.next();
            return token == NUMBER ? INT : BOOL;
        }

        private int signedFactor(int token) {
            int before = misfits;
            int wanted = token == '-' ? INT : BOOL;
            takeOpening(token);
            int place = tokens.place;
            fit(factor(), wanted, place);
            open--;
            write(token == '-' ? MINUS : NOT, 1);
            return misfits == before ? wanted : ANY;
        }

        private int namedFactor() {
            long name = tokens.name;
            int place = tokens.place;
            int before = misfits;
            tokens.next();
            if (tokens.token == '(') {
                return callRoutine(name, place, false);
            }
            if (tokens.token == '[') {
                writeNamed(CELL, indexedArray(name, place));
                return misfits == before ? INT : ANY;
            }
            int number = localNamed(name);
            if (number != NONE) {
                write(LOCAL, 1);
                write(number, 1);
                return localType(number);
            }
            Item other = meant(revision.named(name), GLOBAL, place);
            writeNamed(READ, other);
            return other == null ? ANY : other.type;
        }

        private Item indexedArray(long name, int place) {
            Item array = meant(revision.named(name), ARRAY, place);
            takeOpening('[');
            wantedExpression(INT);
            takeClosing(']');
            return array;
        }

        private Item meant(Item other, int kind, int place) {
            if (other != null && other.kind == kind) {
                return other;
            }
            misfitAt(place);
            return null;
        }

        private int callRoutine(long name, int place, boolean asStatement) {
            int before = misfits;
            Item routine = meant(revision.named(name), ROUTINE, place);
            takeOpening('(');
            int count = 0;
            boolean more = tokens.token != ')';
            while (more && count < MOST_SIGNS) {
                wantedExpression(routine == null ? ANY : routine.parameterType(count));
                count++;
                more = tokens.token == ',';
                if (more) {
                    tokens.next();
                }
            }
            takeClosing(')');
            if (routine == null) {
                return ANY;
            }
            if (count != routine.parameters || asStatement != (routine.form == PROC)) {
                misfitAt(place);
            }
            writeNamed(CALL, routine);
            return misfits == before ? routine.type : ANY;
        }

        private void fit(int type, int wanted, int place) {
            if (type != ANY && wanted != ANY && type != wanted) {
                misfitAt(place);
            }
        }

        /** Nothing misfits on the first way, where items behind aren't known yet. */
        private void misfitAt(int place) {
            if (writing) {
                misfits++;
                misfit = misfit == NONE ? place : Math.min(misfit, place);
            }
        }

        private void write(int number, int width) {
            if (writing) {
                revision.write(number, width);
            }
        }

        private void writeNamed(int code, Item other) {
            if (writing && other != null) {
                revision.write(code, 1);
                revision.write(item.need(other), 1);
            }
        }

        private int codePlace() {
            return revision.size - item.codeFrom;
        }

        /** Where the place to jump to stands. */
        private int writeJump(int code, int target) {
            write(code, 1);
            write(target, 2);
            return revision.size - 2;
        }

        private void land(int jump) {
            if (writing) {
                revision.patch(jump, codePlace(), 2);
            }
        }
    }

    /** Tells one sign of a listing without building the rest. */
    private static final class Listing {
        private int wanted;
        private int passed;
        private int found;

        int signAt(Revision revision, Item item, int i) {
            wanted = i;
            passed = 0;
            found = NONE;
            int place = 0;
            for (int n = 0; n < MOST_BYTES && place < item.codeSize && found == NONE; n++) {
                place += 1 + line(revision, item, place);
            }
            return found;
        }

        /** How many bytes stand behind the instruction's first one. */
        private int line(Revision revision, Item item, int place) {
            int code = revision.at(item.codeFrom + place);
            int width = code < WIDTHS.length ? WIDTHS[code] : 0;
            number(place);
            sign(' ');
            word(code);
            if (width > 0) {
                int operand = revision.numberAt(item.codeFrom + place + 1, width);
                sign(' ');
                if (code >= READ && code <= CALL) {
                    name(item.neededAt(operand));
                } else {
                    number(operand);
                }
            }
            sign('\n');
            return width;
        }

        private void sign(int sign) {
            if (passed == wanted) {
                found = sign;
            }
            passed++;
        }

        private void word(int code) {
            int word = 1;
            for (int k = 0; k < CODE_WORDS.length() && word <= code; k++) {
                char sign = CODE_WORDS.charAt(k);
                if (sign == ' ') {
                    word++;
                } else if (word == code) {
                    sign(sign);
                }
            }
        }

        private void name(Item item) {
            int letters = item == null ? 0 : letterCount(item.name);
            for (int k = 0; k < letters; k++) {
                sign(letterAt(item.name, k));
            }
        }

        private void number(int number) {
            long rest = number < 0 ? -(long) number : number;
            if (number < 0) {
                sign('-');
            }
            long unit = 1;
            for (int n = 0; n < 10 && rest / unit >= 10; n++) {
                unit *= 10;
            }
            for (int n = 0; n <= 10 && unit > 0; n++) {
                sign((int) ('0' + rest / unit % 10));
                unit /= 10;
            }
        }
    }

    /** A run of a test, an instruction a step. */
    private static final class Machine {
        private Revision revision;
        private final int[] values = new int[MOST_VALUES];
        private int top;
        /** The test, and the calls that are open, one in the other. */
        private final Item[] works = new Item[MOST_CALLS + 1];
        private final int[] places = new int[MOST_CALLS + 1];
        private final int[] bases = new int[MOST_CALLS + 1];
        private final int[] locals = new int[(MOST_CALLS + 1) * MOST_LOCALS];
        private int open;
        private final int[] globals = new int[MOST_GLOBALS];
        private final int[] cells = new int[MOST_ARRAYS * MOST_CELLS];
        private final int[] touchedBits = new int[TOUCHED_KINDS];
        private int fuel;
        private int ending;
        private int steps;
        private Item checkItem;
        private int checkNumber;

        void begin(Revision itsRevision, Item test) {
            revision = itsRevision;
            top = 0;
            fuel = 0;
            ending = NONE;
            steps = 0;
            checkItem = null;
            checkNumber = 0;
            for (int k = 0; k < globals.length; k++) {
                Item item = revision.find(GLOBAL, k);
                globals[k] = item == null ? 0 : item.start;
            }
            for (int k = 0; k < cells.length; k++) {
                cells[k] = 0;
            }
            for (int kind = 0; kind < touchedBits.length; kind++) {
                touchedBits[kind] = 0;
            }
            openWork(0, test);
        }

        private void openWork(int depth, Item work) {
            if (depth >= 0 && depth < works.length) {
                open = depth;
                works[depth] = work;
                places[depth] = 0;
                bases[depth] = top;
                for (int k = 0; k < MOST_LOCALS; k++) {
                    setLocal(k, 0);
                }
            }
        }

        /** How many instructions were done. */
        int go(int most) {
            int done = 0;
            while (done < most && ending == NONE) {
                instruction();
                done++;
            }
            steps += done;
            return done;
        }

        private void instruction() {
            Item work = open < 0 || open >= works.length ? null : works[open];
            if (work == null || revision == null) {
                ending = CAME_TO_END;
                return;
            }
            int at = work.codeFrom + places[open];
            int code = revision.at(at);
            int width = code < WIDTHS.length ? WIDTHS[code] : 0;
            int operand = width == 0 ? 0 : revision.numberAt(at + 1, width);
            places[open] += 1 + width;
            if (code >= READ && code <= CALL) {
                useItem(code, work.neededAt(operand));
            } else if (code >= OR) {
                joinTwo(code);
            } else if (code >= GIVE && code <= CHECK) {
                goElsewhere(code, operand, work);
            } else {
                handleOne(code, operand);
            }
        }

        private void handleOne(int code, int operand) {
            switch (code) {
                case PUSH_INT:
                    push(operand);
                    break;
                case PUSH_TRUE:
                    push(1);
                    break;
                case LOCAL:
                    push(localAt(operand));
                    break;
                case SET_LOCAL:
                    setLocal(operand, pop());
                    break;
                case DROP:
                    pop();
                    break;
                case MINUS:
                    push(-pop());
                    break;
                case NOT:
                    push(1 - pop());
                    break;
                default:
                    push(0);
                    break;
            }
        }

        private void goElsewhere(int code, int operand, Item work) {
            switch (code) {
                case GIVE:
                    int given = pop();
                    leave();
                    push(given);
                    break;
                case RETURN:
                    leave();
                    break;
                case JUMP:
                    jump(operand);
                    break;
                case UNLESS:
                    if (pop() == 0) {
                        jump(operand);
                    }
                    break;
                case ROUND:
                    burn();
                    break;
                case CHECK:
                    if (pop() == 0) {
                        ending = CHECK_FALSE;
                        checkItem = work;
                        checkNumber = operand;
                    }
                    break;
                default:
                    ending = CAME_TO_END;
                    break;
            }
        }

        private void jump(int place) {
            if (open >= 0 && open < places.length) {
                places[open] = place;
            }
        }

        private void leave() {
            if (open > 0) {
                open--;
            }
        }

        private void useItem(int code, Item item) {
            if (item == null) {
                return;
            }
            switch (code) {
                case READ:
                    touch(item);
                    push(globalAt(item.number));
                    break;
                case WRITE:
                    setGlobal(item.number, pop());
                    break;
                case CELL:
                    touch(item);
                    readCell(item, pop());
                    break;
                case SET_CELL:
                    touch(item);
                    int set = pop();
                    writeCell(item, pop(), set);
                    break;
                default:
                    enter(item);
                    break;
            }
        }

        private void touch(Item item) {
            if (item.kind >= 0 && item.kind < touchedBits.length) {
                touchedBits[item.kind] |= 1 << item.number;
            }
        }

        private void setGlobal(int k, int set) {
            if (k >= 0 && k < globals.length) {
                globals[k] = set;
            }
        }

        private void readCell(Item array, int index) {
            if (index < 0 || index >= array.start) {
                ending = NO_CELL;
            } else {
                push(cellAt(array.number, index));
            }
        }

        private void writeCell(Item array, int index, int set) {
            int at = array.number * MOST_CELLS + index;
            if (index < 0 || index >= array.start) {
                ending = NO_CELL;
            } else if (at >= 0 && at < cells.length) {
                cells[at] = set;
            }
        }

        private void enter(Item routine) {
            if (!burn()) {
                return;
            }
            touch(routine);
            if (open >= MOST_CALLS) {
                ending = TOO_MANY_CALLS;
                return;
            }
            int count = routine.parameters;
            top = Math.max(0, top - count);
            openWork(open + 1, routine);
            for (int k = 0; k < count; k++) {
                setLocal(k, top + k < values.length ? values[top + k] : 0);
            }
        }

        private boolean burn() {
            if (fuel >= FUEL) {
                ending = NO_FUEL;
                return false;
            }
            fuel++;
            return true;
        }

        private void joinTwo(int code) {
            int right = pop();
            int left = pop();
            switch (code) {
                case OR:
                    push(left | right);
                    break;
                case AND:
                    push(left & right);
                    break;
                case SAME:
                    push(left == right ? 1 : 0);
                    break;
                case UNLIKE:
                    push(left != right ? 1 : 0);
                    break;
                case BELOW:
                    push(left < right ? 1 : 0);
                    break;
                case MOST:
                    push(left <= right ? 1 : 0);
                    break;
                default:
                    reckon(code, left, right);
                    break;
            }
        }

        private void reckon(int code, int left, int right) {
            switch (code) {
                case PLUS:
                    push(left + right);
                    break;
                case LESS:
                    push(left - right);
                    break;
                case TIMES:
                    push(left * right);
                    break;
                default:
                    if (right == 0) {
                        ending = DIVIDED_BY_ZERO;
                    } else {
                        push(code == OVER ? left / right : left % right);
                    }
                    break;
            }
        }

        private void push(int pushed) {
            if (top >= 0 && top < values.length) {
                values[top] = pushed;
                top++;
            }
        }

        private int pop() {
            if (top <= 0 || top > values.length) {
                return 0;
            }
            top--;
            return values[top];
        }

        private void setLocal(int k, int set) {
            int at = open * MOST_LOCALS + k;
            if (k >= 0 && k < MOST_LOCALS && at >= 0 && at < locals.length) {
                locals[at] = set;
            }
        }

        int localAt(int k) {
            int at = open * MOST_LOCALS + k;
            return k < 0 || k >= MOST_LOCALS || at < 0 || at >= locals.length ? 0 : locals[at];
        }

        int globalAt(int k) {
            return k < 0 || k >= globals.length ? 0 : globals[k];
        }

        int cellAt(int array, int k) {
            int at = array * MOST_CELLS + k;
            return at < 0 || at >= cells.length ? 0 : cells[at];
        }

        int valueBelow(int above) {
            int at = top - 1 - above;
            return at < 0 || at >= values.length ? 0 : values[at];
        }

        private Item work() {
            return open < 0 || open >= works.length ? null : works[open];
        }

        int workRoutine() {
            Item work = work();
            return work == null || work.kind != ROUTINE ? NONE : work.number;
        }

        int workPlace() {
            return open < 0 || open >= places.length ? 0 : places[open];
        }

        int workValues() {
            return open < 0 || open >= bases.length ? 0 : top - bases[open];
        }

        int workLocals() {
            Item work = work();
            return work == null ? 0 : work.locals;
        }

        int bitsOf(int kind) {
            return kind < 0 || kind >= touchedBits.length ? 0 : touchedBits[kind];
        }

        boolean hasTouched(int kind, int k) {
            return k >= 0 && k < 32 && (bitsOf(kind) & (1 << k)) != 0;
        }
    }

    /** A picked test with its run, and when and by whom it is done. */
    private static final class Slot {
        private Item test;
        private int estimate;
        private int worker;
        private int began;
        private int ended;
        private boolean handled;
        private boolean recorded;
        private int ending;
        private int fuel;
        private Item checkItem;
        private int checkNumber;
        private final int[] touchedBits = new int[TOUCHED_KINDS];

        void start(Item itsTest, int itsEstimate) {
            test = itsTest;
            estimate = itsEstimate;
            handled = false;
            recorded = false;
        }

        void take(Machine machine) {
            ending = machine.ending;
            fuel = machine.fuel;
            checkItem = machine.checkItem;
            checkNumber = machine.checkNumber;
            for (int kind = 0; kind < touchedBits.length; kind++) {
                touchedBits[kind] = machine.bitsOf(kind);
            }
        }

        boolean hasTouched(int kind, int k) {
            return kind >= 0 && kind < touchedBits.length && (touchedBits[kind] & (1 << k)) != 0;
        }
    }

    /** The workers of the latest run, and what they do when. */
    private static final class Crew {
        private final Slot[] slots = new Slot[MOST_TESTS];
        private final int[] free = new int[MOST_WORKERS];
        private int count;
        private int workers;
        private boolean ran;

        Crew() {
            for (int i = 0; i < slots.length; i++) {
                slots[i] = new Slot();
            }
        }

        void forget() {
            count = 0;
            ran = false;
        }

        void gather(int itsWorkers) {
            count = 0;
            ran = true;
            workers = itsWorkers;
            for (int worker = 0; worker < free.length; worker++) {
                free[worker] = 0;
            }
        }

        /** Tests come by number, so one goes behind all others of its estimate. */
        void add(Item test, int estimate) {
            if (count < 0 || count >= slots.length) {
                return;
            }
            Slot slot = slots[count];
            slot.start(test, estimate);
            int at = count;
            while (at > 0 && slots[at - 1].estimate < estimate) {
                slots[at] = slots[at - 1];
                at--;
            }
            slots[at] = slot;
            count++;
        }

        Slot slotAt(int i) {
            return i < 0 || i >= count || i >= slots.length ? null : slots[i];
        }

        void assign(Slot slot) {
            int first = 0;
            for (int worker = 1; worker < workers && worker < free.length; worker++) {
                if (free[worker] < free[first]) {
                    first = worker;
                }
            }
            slot.worker = first;
            slot.began = free[first];
            slot.ended = slot.began + slot.fuel + 1;
            free[first] = slot.ended;
        }

        /** The one that ends next, of those that were not asked for before. */
        Slot nextEnded() {
            Slot next = null;
            for (int i = 0; i < count && i < slots.length; i++) {
                Slot slot = slots[i];
                if (!slot.handled && (next == null || slot.ended < next.ended
                        || (slot.ended == next.ended && slot.worker < next.worker))) {
                    next = slot;
                }
            }
            if (next != null) {
                next.handled = true;
            }
            return next;
        }

        int lastEnd() {
            int last = 0;
            for (int i = 0; i < count && i < slots.length; i++) {
                last = Math.max(last, slots[i].ended);
            }
            return last;
        }

        int leastTime() {
            int longest = 0;
            int together = 0;
            for (int i = 0; i < count && i < slots.length; i++) {
                longest = Math.max(longest, slots[i].fuel + 1);
                together += slots[i].fuel + 1;
            }
            return workers < 1 ? longest : Math.max(longest, (together + workers - 1) / workers);
        }
    }

    /** What a record tells. */
    private static final class Outcome {
        private long name;
        private int ending;
        private int checkEntry;
        private int checkNumber;
        private int fuel;
        private int revision;
        private int testEntry;
        private int count;
        private final int[] entries = new int[MOST_NEEDED];

        void addEntry(int entry) {
            if (count >= 0 && count < entries.length) {
                entries[count] = entry;
                count++;
            }
        }

        int entryAt(int k) {
            return k < 0 || k >= count || k >= entries.length ? NONE : entries[k];
        }
    }

    /** The log of a half: its bytes, and where in them entries stand. */
    private static final class Log {
        private final byte[] bytes = new byte[MOST_LOG];
        private int size;
        private int epoch;
        private final long[] itemNames = new long[MOST_ENTRIES];
        private final int[] itemFroms = new int[MOST_ENTRIES];
        private final int[] itemSizes = new int[MOST_ENTRIES];
        private int items;
        private final long[] recordNames = new long[MOST_RECORDS];
        private final int[] recordFroms = new int[MOST_RECORDS];
        private int records;
        /** Whether something had no room since this was last set to false. */
        private boolean full;
        /** Whether what was read from the disk ended with a whole entry. */
        private boolean whole;

        void start(int itsEpoch) {
            epoch = itsEpoch;
            size = 0;
            items = 0;
            records = 0;
            full = false;
            whole = true;
        }

        private void write(int number, int width) {
            for (int n = 0; n < width; n++) {
                if (size >= 0 && size < bytes.length) {
                    bytes[size] = (byte) (number >>> (8 * n));
                    size++;
                } else {
                    full = true;
                }
            }
        }

        /** The number of the entry of an item with this name and bytes; it gets one if need be. */
        int entryOf(long name, byte[] source, int from, int length) {
            for (int entry = 0; entry < items && entry < itemNames.length; entry++) {
                if (itemNames[entry] == name && itemSizes[entry] == length
                        && sameBytes(bytes, itemFroms[entry], source, from, length)) {
                    return entry;
                }
            }
            int letters = letterCount(name);
            write(4 + letters + length, 2);
            write(ITEM_ENTRY, 1);
            write(items, 2);
            write(letters, 1);
            for (int k = 0; k < letters; k++) {
                write(letterAt(name, k), 1);
            }
            noteItem(name, size, length);
            for (int k = 0; k < length; k++) {
                write(byteAt(source, from + k), 1);
            }
            return items - 1;
        }

        private void noteItem(long name, int from, int length) {
            if (items < 0 || items >= itemNames.length) {
                full = true;
                return;
            }
            itemNames[items] = name;
            itemFroms[items] = from;
            itemSizes[items] = length;
            items++;
        }

        void addRecord(Outcome outcome) {
            int letters = letterCount(outcome.name);
            write(13 + letters + 2 * outcome.count, 2);
            write(RECORD_ENTRY, 1);
            write(letters, 1);
            for (int k = 0; k < letters; k++) {
                write(letterAt(outcome.name, k), 1);
            }
            noteRecord(outcome.name, size);
            write(outcome.ending, 1);
            write(outcome.checkEntry, 2);
            write(outcome.checkNumber, 1);
            write(outcome.fuel, 2);
            write(outcome.revision, 2);
            write(outcome.testEntry, 2);
            write(outcome.count, 1);
            for (int k = 0; k < outcome.count; k++) {
                write(outcome.entryAt(k), 2);
            }
        }

        private void noteRecord(long name, int from) {
            if (records < 0 || records >= recordNames.length) {
                full = true;
                return;
            }
            recordNames[records] = name;
            recordFroms[records] = from;
            records++;
        }

        /** Whether there is a record for the name; the outcome is the last one's then. */
        boolean fetchInto(Outcome outcome, long name) {
            int last = Math.min(records, recordNames.length) - 1;
            while (last >= 0 && recordNames[last] != name) {
                last--;
            }
            if (last < 0) {
                return false;
            }
            int from = recordFroms[last];
            outcome.name = name;
            outcome.ending = byteAt(bytes, from);
            outcome.checkEntry = twoAt(bytes, from + 1);
            outcome.checkNumber = byteAt(bytes, from + 3);
            outcome.fuel = twoAt(bytes, from + 4);
            outcome.revision = twoAt(bytes, from + 6);
            outcome.testEntry = twoAt(bytes, from + 8);
            outcome.count = 0;
            int count = byteAt(bytes, from + 10);
            for (int k = 0; k < count; k++) {
                outcome.addEntry(twoAt(bytes, from + 11 + 2 * k));
            }
            return true;
        }

        long nameOf(int entry) {
            return entry < 0 || entry >= items || entry >= itemNames.length ? 0 : itemNames[entry];
        }

        private int fromOf(int entry) {
            return entry < 0 || entry >= items || entry >= itemFroms.length ? 0 : itemFroms[entry];
        }

        private int sizeOf(int entry) {
            return entry < 0 || entry >= items || entry >= itemSizes.length ? 0 : itemSizes[entry];
        }

        int formOf(int entry) {
            return byteAt(bytes, fromOf(entry));
        }

        boolean isAsIn(Revision revision, Item item, int entry) {
            return revision.hasSame(item, bytes, fromOf(entry), sizeOf(entry));
        }

        /** Adds what a record of the other log tells, with the items that it needs. */
        void copyFrom(Log other, Outcome outcome) {
            int check = outcome.checkEntry;
            outcome.testEntry = copyItem(other, outcome.testEntry);
            for (int k = 0; k < outcome.count && k < outcome.entries.length; k++) {
                outcome.entries[k] = copyItem(other, outcome.entries[k]);
            }
            outcome.checkEntry = outcome.ending == CHECK_FALSE ? copyItem(other, check) : 0;
            addRecord(outcome);
        }

        private int copyItem(Log other, int entry) {
            return entryOf(other.nameOf(entry), other.bytes, other.fromOf(entry), other.sizeOf(entry));
        }

        void readFrom(byte[] blocks, int half) {
            int head = half * HALF;
            start(twoAt(blocks, head));
            boolean more = true;
            for (int block = 1; more && block < HALF_BLOCKS; block++) {
                int from = head + block * BLOCK;
                int held = byteAt(blocks, from + 2);
                more = twoAt(blocks, from) == epoch && held <= BLOCK_ROOM;
                for (int k = 0; more && k < held; k++) {
                    write(byteAt(blocks, from + BLOCK_HEAD + k), 1);
                }
                more = more && held == BLOCK_ROOM;
            }
            noteEntries();
        }

        private void noteEntries() {
            int at = 0;
            for (int n = 0; n < MOST_LOG && at < size; n++) {
                int behind = at + 2 + twoAt(bytes, at);
                if (at + 2 > size || behind > size) {
                    whole = false;
                    size = at;
                } else {
                    noteEntry(at + 2, behind);
                    at = behind;
                }
            }
        }

        private void noteEntry(int from, int behind) {
            boolean isItem = byteAt(bytes, from) == ITEM_ENTRY;
            int lettersAt = isItem ? from + 3 : from + 1;
            int letters = byteAt(bytes, lettersAt);
            long name = 0;
            for (int k = 0; k < letters; k++) {
                name = withLetter(name, k, byteAt(bytes, lettersAt + 1 + k));
            }
            int contents = lettersAt + 1 + letters;
            if (isItem) {
                noteItem(name, contents, behind - contents);
            } else {
                noteRecord(name, contents);
            }
        }
    }

    /** The disk with the logs of its two halves. */
    private static final class Store {
        private final byte[] blocks = new byte[DISK];
        private final Log[] logs = new Log[2];
        private final Outcome outcome = new Outcome();
        private int live;
        private int written;
        private int recorded;
        /** How many blocks may still be written ahead of the crash. */
        private int left;
        private boolean crashed;

        Store() {
            blocks[0] = 1;
            blocks[2] = 1;
            for (int half = 0; half < logs.length; half++) {
                logs[half] = new Log();
                logs[half].start(1 - half);
            }
        }

        Log liveLog() {
            return logs[live == 1 ? 1 : 0];
        }

        boolean fetch(long name) {
            return liveLog().fetchInto(outcome, name);
        }

        int estimate(Item test) {
            return fetch(test.name) ? outcome.fuel : FUEL;
        }

        /** WHY a test would run; the outcome is that of its record, if there is one. */
        int reason(Revision revision, Item test) {
            Log log = liveLog();
            if (!log.fetchInto(outcome, test.name)) {
                return 1;
            }
            if (!log.isAsIn(revision, test, outcome.testEntry)) {
                return 2;
            }
            for (int k = 0; k < outcome.count; k++) {
                int entry = outcome.entryAt(k);
                Item item = revision.named(log.nameOf(entry));
                if (item == null || !log.isAsIn(revision, item, entry)) {
                    return 3 + k;
                }
            }
            return 0;
        }

        long touchedName(Item test, int k) {
            return fetch(test.name) ? liveLog().nameOf(outcome.entryAt(k)) : 0;
        }

        /** By name and kind: a func that is a proc now is the same. */
        boolean isEntryOf(int entry, Item item) {
            int form = liveLog().formOf(entry);
            int kind = form <= FUNC ? form : form - 1;
            return liveLog().nameOf(entry) == item.name && kind == item.kind;
        }

        void allow(int most) {
            left = most;
            crashed = false;
        }

        /** Whether the run is wholly on the disk. */
        boolean keep(Revision revision, Slot slot, int number) {
            if (slot.test == null) {
                return false;
            }
            int from = liveLog().size;
            if (!enter(revision, slot, number)) {
                if (!makeAnew(revision, slot.test.name)) {
                    return false;
                }
                from = liveLog().size;
                if (!enter(revision, slot, number)) {
                    return false;
                }
            }
            if (!writeLog(live, from)) {
                return false;
            }
            recorded++;
            return true;
        }

        /** Puts the run behind the live log, or leaves that as it is if there is no room. */
        private boolean enter(Revision revision, Slot slot, int number) {
            Log log = liveLog();
            int size = log.size;
            int items = log.items;
            int records = log.records;
            log.full = false;
            Item test = slot.test;
            outcome.name = test.name;
            outcome.ending = slot.ending;
            outcome.fuel = slot.fuel;
            outcome.revision = number;
            outcome.testEntry = log.entryOf(test.name, revision.bytes, test.from, test.size);
            enterTouched(log, revision, slot);
            Item check = slot.ending == CHECK_FALSE ? slot.checkItem : null;
            outcome.checkEntry = check == null ? 0
                    : log.entryOf(check.name, revision.bytes, check.from, check.size);
            outcome.checkNumber = check == null ? 0 : slot.checkNumber;
            log.addRecord(outcome);
            if (log.full) {
                log.size = size;
                log.items = items;
                log.records = records;
            }
            return !log.full;
        }

        private void enterTouched(Log log, Revision revision, Slot slot) {
            outcome.count = 0;
            for (int kind = 0; kind < TOUCHED_KINDS; kind++) {
                for (int k = 0; k < revision.counted(kind); k++) {
                    Item item = slot.hasTouched(kind, k) ? revision.find(kind, k) : null;
                    if (item != null) {
                        outcome.addEntry(log.entryOf(item.name, revision.bytes, item.from, item.size));
                    }
                }
            }
        }

        /** Makes the log anew without the record of that test; false if a crash comes. */
        private boolean makeAnew(Revision revision, long except) {
            int oldHalf = live == 1 ? 1 : 0;
            int half = 1 - oldHalf;
            Log old = logs[oldHalf];
            Log made = logs[half];
            int greater = Math.max(old.epoch, twoAt(blocks, half * HALF + BLOCK));
            made.start(greater >= LAST_EPOCH ? 1 : greater + 1);
            for (int k = 0; k < revision.counted(TEST); k++) {
                Item test = revision.find(TEST, k);
                if (test != null && test.name != except && old.fetchInto(outcome, test.name)) {
                    made.copyFrom(old, outcome);
                }
            }
            if (!writeLog(half, 0) || !writeHead(half, 1)) {
                return false;
            }
            live = half;
            return writeHead(oldHalf, 0);
        }

        /** Writes the blocks that hold the half's log from that byte on. */
        private boolean writeLog(int half, int from) {
            Log log = logs[half == 1 ? 1 : 0];
            for (int k = from / BLOCK_ROOM * BLOCK_ROOM; k < log.size; k += BLOCK_ROOM) {
                int held = Math.min(BLOCK_ROOM, log.size - k);
                int at = half * HALF + (1 + k / BLOCK_ROOM) * BLOCK;
                if (!beginBlock(at, log.epoch, held)) {
                    return false;
                }
                for (int n = 0; n < held; n++) {
                    set(at + BLOCK_HEAD + n, byteAt(log.bytes, k + n));
                }
            }
            return true;
        }

        private boolean writeHead(int half, int counts) {
            return beginBlock(half * HALF, logs[half == 1 ? 1 : 0].epoch, counts);
        }

        private boolean beginBlock(int at, int epoch, int third) {
            if (left <= 0) {
                crashed = true;
                return false;
            }
            left--;
            written++;
            set(at, epoch);
            set(at + 1, epoch >>> 8);
            set(at + 2, third);
            for (int k = BLOCK_HEAD; k < BLOCK; k++) {
                set(at + k, 0);
            }
            return true;
        }

        private void set(int at, int number) {
            if (at >= 0 && at < blocks.length) {
                blocks[at] = (byte) number;
            }
        }

        /** What is on the disk counts; what was told to run() no longer does. */
        void recover(Revision revision) {
            boolean firstCounts = byteAt(blocks, 2) == 1;
            boolean secondCounts = byteAt(blocks, HALF + 2) == 1;
            boolean secondIsGreater = twoAt(blocks, HALF) > twoAt(blocks, 0);
            live = secondCounts && (!firstCounts || secondIsGreater) ? 1 : 0;
            allow(MOST_ANEW);
            Log log = liveLog();
            log.readFrom(blocks, live);
            if (!log.whole) {
                makeAnew(revision, 0);
            }
        }
    }
}
