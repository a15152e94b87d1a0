import java.util.Arrays;

/** A store of events for bins of goods; ../shared/DOC.md says what each call answers. */
public final class StockEvents {
    public static final int BAD = -1, NOT = -2, FULL = -3, CONFLICT = -4, STATE = -5, VOID = -2000000000;

    private static final long LONG_BAD = Long.MIN_VALUE;
    private static final int FAULTY = -100, LINE_FAILED = -300;

    private static final int STREAMS = 8, KINDS = 9, SLOTS = 4;
    private static final int EVENTS_MOST = 240, TAPE_MOST = 160, LINES_MOST = 40;
    private static final int NUMBER_MOST = 999, AMOUNT_MOST = 999, FIGURES_MOST = 4, CONSTANT_MOST = 9999;
    private static final int UPCASTERS_MOST = 3, SNAPSHOTS_KEPT = 4, EVERY_MOST = 20, OPEN_MOST = 6;
    private static final int ANY = -1, NONE = -1;

    private static final int OPENED = 0, PUT = 1, TAKEN = 2, HELD = 3, FREED = 4, PRICED = 5, SENT = 6, GOT = 7,
        CLOSED = 8;
    private static final String KIND_WORDS = "opened put taken held freed priced sent got closed";
    private static final String KIND_WORDS_OR_ALL = "opened put taken held freed priced sent got closed all";
    private static final int ALL_WORD = 9, ALL_KINDS = (1 << KINDS) - 1;

    // The verbs stand in the order of the kinds that they make; close alone is one ahead of its kind.
    private static final String VERB_WORDS = "open put take hold free price send close";
    private static final int CLOSE_VERB = 7;

    private static final String FOLD_WORDS = "sum count most least first last";
    private static final int SUM = 0, COUNT = 1, MOST = 2, LEAST = 3, FIRST = 4;
    private static final String KEY_WORDS = "stream kind none";
    private static final int BY_STREAM = 0, BY_KIND = 1;

    private static final String EVENT_LETTERS = "abs", STATE_LETTERS = "okhpv";
    private static final int LETTER_A = 0, LETTER_B = 1, LETTER_S = 2;

    // The columns of an event, as event() names them.
    private static final int AT_STREAM = 0, AT_VERSION = 1, AT_KIND = 2, AT_FORMAT = 3, AT_A = 4, AT_B = 5,
        READ_A = 6, READ_B = 7, COLUMNS = 6;

    // The cells of a bin, as state() names them.
    private static final int OPEN = 0, STOCK = 1, HOLD = 2, PRICE = 3, VERSION = 4, CELLS = 4;

    private static final int DONE = 0, REPEATED = 1, CONFLICTS = 2, REFUSED = 3, HANDLED = 4, SKIPPED = 5, GAPS = 6,
        LEDS = 7;

    private final Tape tape;
    private final Batch lines;
    private final Store store;
    private final Store kept;
    private boolean imaged;

    public StockEvents() {
        tape = new Tape();
        lines = new Batch();
        store = new Store();
        kept = new Store();
        imaged = false;
    }

    // ---- the tape, commands

    public int feed(int letter) {
        return within(letter, 1, 255) ? tape.add(letter) : BAD;
    }

    public int ask(int stream, int expected, int number) {
        if (!isStream(stream) || expected < ANY || !within(number, 0, NUMBER_MOST)) {
            return BAD;
        }
        tape.begin();
        Command command = tape.command(false);
        int fault = tape.end();
        return fault >= 0 ? FAULTY - fault : store.asked(stream, expected, number, command);
    }

    public int batch() {
        tape.begin();
        tape.readLines(lines);
        int fault = tape.end();
        return fault >= 0 ? FAULTY - fault : store.carryAll(lines);
    }

    public int upcast() {
        tape.begin();
        int kind = tape.word(KIND_WORDS);
        tape.take(':');
        Formula a = tape.formula(EVENT_LETTERS, 0);
        tape.take(',');
        Formula b = tape.formula(EVENT_LETTERS, 0);
        int fault = tape.end();
        return fault >= 0 ? FAULTY - fault : store.addUpcaster(kind, a, b);
    }

    // ---- states, snapshots

    public int state(int stream, int what) {
        if (!isStream(stream) || !within(what, OPEN, VERSION)) {
            return VOID;
        }
        return what == VERSION ? store.log.versionOf(stream) : store.bins.get(stream, what);
    }

    public int at(int stream, int version, int what) {
        if (!isVersion(stream, version) || !within(what, OPEN, PRICE)) {
            return VOID;
        }
        store.foldPast(version == 0 ? 0 : store.log.positionOf(stream, version));
        return store.past.get(stream, what);
    }

    public int steps(int stream, int version) {
        if (!isVersion(stream, version)) {
            return BAD;
        }
        return version - store.snapshots.latestGood(stream, version, store.formats.era);
    }

    public int snap(int stream) {
        if (!isStream(stream)) {
            return BAD;
        }
        int version = store.log.versionOf(stream);
        store.snapshots.add(stream, version, store.formats.era);
        return version;
    }

    public int snaps(int stream, int what) {
        if (!isStream(stream) || !within(what, 0, 1)) {
            return BAD;
        }
        return what == 0 ? store.snapshots.sizeOf(stream) : store.snapshots.goodOf(stream, store.formats.era);
    }

    public int every(int n) {
        if (!within(n, 0, EVERY_MOST)) {
            return BAD;
        }
        int before = store.every;
        store.every = n;
        return before;
    }

    // ---- the log

    public int event(int position, int what) {
        if (!store.log.has(position) || !within(what, AT_STREAM, READ_B)) {
            return VOID;
        }
        if (what < READ_A) {
            return store.log.get(position, what);
        }
        store.formats.read(store.log, position);
        return store.formats.letter(what == READ_A ? LETTER_A : LETTER_B);
    }

    public int text(int position, int i) {
        if (!store.log.has(position) || i < -1) {
            return BAD;
        }
        int length = store.log.write(position);
        if (i == -1) {
            return length;
        }
        return i < length ? store.log.written(i) : NOT;
    }

    public int find(int stream, int version) {
        return isVersion(stream, version) && version > 0 ? store.log.positionOf(stream, version) : BAD;
    }

    public long worth(int position) {
        if (!within(position, 0, store.log.length)) {
            return LONG_BAD;
        }
        store.foldPast(position);
        return store.past.worthOfOpen();
    }

    // ---- projections

    public int project(int p) {
        if (!isSlot(p)) {
            return BAD;
        }
        tape.begin();
        Projection told = tape.projection();
        int fault = tape.end();
        if (fault >= 0) {
            return FAULTY - fault;
        }
        store.live[p] = told;
        store.beside[p] = null;
        return 1;
    }

    public int rebuild(int p) {
        if (!isSlot(p)) {
            return BAD;
        }
        Projection live = store.live[p];
        if (live == null) {
            return STATE;
        }
        if (tape.length == 0) {
            store.beside[p] = live.afresh();
            return 1;
        }
        tape.begin();
        Projection told = tape.projection();
        int fault = tape.end();
        if (fault >= 0) {
            return FAULTY - fault;
        }
        store.beside[p] = told;
        return 1;
    }

    public int deliver(int p, int which, int from, int n) {
        if (!isSlot(p) || !within(which, 0, 1) || from < 1 || !within(n, 1, EVENTS_MOST)) {
            return BAD;
        }
        Projection projection = store.projectionOf(p, which);
        return projection == null ? STATE : store.handOver(projection, from, n);
    }

    public int swap(int p) {
        if (!isSlot(p)) {
            return BAD;
        }
        Projection beside = store.beside[p];
        Projection live = store.live[p];
        if (beside == null || live != null && beside.checkpoint < live.checkpoint) {
            return STATE;
        }
        store.live[p] = beside;
        store.beside[p] = null;
        return beside.checkpoint;
    }

    public int look(int p, int which, int what) {
        if (!isSlot(p) || !within(which, 0, 1) || !within(what, 0, 4)) {
            return VOID;
        }
        Projection projection = store.projectionOf(p, which);
        if (projection == null) {
            return VOID;
        }
        switch (what) {
            case 0:
                return projection.checkpoint;
            case 1:
                return projection.size();
            case 2:
                return store.log.length - projection.checkpoint;
            case 3:
                return store.isTrue(projection) ? 1 : 0;
            default:
                return projection.sum();
        }
    }

    public int row(int p, int which, int key) {
        if (!isSlot(p) || !within(which, 0, 1) || !within(key, 0, KINDS - 1)) {
            return VOID;
        }
        Projection projection = store.projectionOf(p, which);
        return projection != null && projection.has(key) ? projection.rows[key] : VOID;
    }

    // ---- policies, clients, watches

    public int policy(int p) {
        if (!isSlot(p)) {
            return BAD;
        }
        tape.begin();
        Policy told = tape.policyText();
        int fault = tape.end();
        if (fault >= 0) {
            return FAULTY - fault;
        }
        told.checkpoint = store.log.length;
        store.policies[p] = told;
        return 1;
    }

    public int run(int p, int n) {
        if (!isSlot(p) || !within(n, 1, EVENTS_MOST)) {
            return BAD;
        }
        Policy policy = store.policies[p];
        return policy == null ? STATE : store.runPolicy(policy, n);
    }

    public int policyOf(int p, int what) {
        if (!isSlot(p) || !within(what, 0, 2)) {
            return BAD;
        }
        Policy policy = store.policies[p];
        if (policy == null) {
            return STATE;
        }
        return what == 0 ? policy.checkpoint : what == 1 ? policy.done : policy.refused;
    }

    public int see(int client, int stream) {
        if (!isSlot(client) || !isStream(stream)) {
            return BAD;
        }
        store.seenStream[client] = stream;
        store.seenVersion[client] = store.log.versionOf(stream);
        return store.seenVersion[client];
    }

    public int harmless() {
        tape.begin();
        int kinds = tape.length == 0 ? 0 : tape.kinds();
        int fault = tape.end();
        if (fault >= 0) {
            return FAULTY - fault;
        }
        store.harmless = kinds;
        return Integer.bitCount(kinds);
    }

    public int attempt(int client, int harmless) {
        if (!isSlot(client) || !within(harmless, 0, 1)) {
            return BAD;
        }
        if (store.seenStream[client] == NONE) {
            return STATE;
        }
        tape.begin();
        Command command = tape.command(false);
        int fault = tape.end();
        return fault >= 0 ? FAULTY - fault : store.tried(client, harmless == 1, command);
    }

    public int watch(int stream, int what) {
        if (!isStream(stream) || !within(what, 0, 3)) {
            return BAD;
        }
        tape.begin();
        Formula watch = tape.formula(STATE_LETTERS, 0);
        int fault = tape.end();
        return fault >= 0 ? FAULTY - fault : store.watched(stream, what, watch);
    }

    public long foresee(int stream, int what) {
        if (!isStream(stream) || !within(what, 0, 5)) {
            return LONG_BAD;
        }
        tape.begin();
        tape.readLines(lines);
        int fault = tape.end();
        if (fault >= 0) {
            return LONG_BAD - FAULTY + fault;
        }
        lines.think(store.bins, store.log.room());
        if (what < 2) {
            return what == 0 ? lines.through : lines.events;
        }
        return lines.bins.get(stream, what - 2);
    }

    public int tally(int kind, int from, int to, int what) {
        if (!within(kind, 0, KINDS - 1) || !within(what, 0, 2)) {
            return VOID;
        }
        if (from > to || !store.log.has(from) || !store.log.has(to)) {
            return VOID;
        }
        return store.tallied(kind, from, to, what);
    }

    public long digest(int position) {
        if (!within(position, 0, store.log.length)) {
            return BAD;
        }
        int d = 7;
        for (int i = 1; i <= position; i++) {
            int length = store.log.write(i);
            for (int j = 0; j < length; j++) {
                d = d * 31 + store.log.written(j);
            }
        }
        return d & 0xffffffffL;
    }

    // ---- the image, what was done

    public int image() {
        kept.copyFrom(store);
        imaged = true;
        return store.log.length;
    }

    public int back() {
        if (!imaged) {
            return STATE;
        }
        store.copyFrom(kept);
        return store.log.length;
    }

    public int led(int what) {
        return within(what, 0, LEDS - 1) ? store.led[what] : BAD;
    }

    public int count(int what) {
        switch (what) {
            case 0:
                return store.log.length;
            case 1:
                return store.formats.era;
            case 2:
                return tape.length;
            case 3:
                return store.log.streamsUsed();
            case 4:
                return store.numbersUsed();
            case 5:
                return store.snapshots.total();
            case 6:
                return store.liveOnes();
            case 7:
                return store.every;
            default:
                return BAD;
        }
    }

    // ---- what the calls share

    private boolean isVersion(int stream, int version) {
        return isStream(stream) && within(version, 0, store.log.versionOf(stream));
    }

    private static boolean isStream(int stream) {
        return within(stream, 0, STREAMS - 1);
    }

    private static boolean isSlot(int p) {
        return within(p, 0, SLOTS - 1);
    }

    private static boolean within(int value, int least, int most) {
        return value >= least && value <= most;
    }

    /** The tape, and how the texts on it are read: the first fault is kept, and what reads on finds the end. */
    private static final class Tape {
        private static final int NO_FAULT = -1, END = 0;
        private static final int COMPARISON = 0, SUM_OF = 1, PRODUCT = 2;

        private final int[] bytes;
        private final int[] code;
        private String letters;
        private int codeLength;
        private int length;
        private int place;
        private int fault;

        Tape() {
            bytes = new int[TAPE_MOST];
            code = new int[TAPE_MOST];
            letters = EVENT_LETTERS;
            fault = NO_FAULT;
        }

        int add(int letter) {
            if (length >= bytes.length) {
                return FULL;
            }
            bytes[length] = letter;
            length++;
            return length;
        }

        void begin() {
            place = 0;
            fault = NO_FAULT;
        }

        /** Empties the tape: the fault of the text that was read, or -1. */
        int end() {
            if (place < length) {
                fail(place);
            }
            length = 0;
            return fault;
        }

        private void fail(int where) {
            if (fault == NO_FAULT) {
                fault = where;
            }
            place = length;
        }

        private int peek() {
            return place >= 0 && place < length && place < bytes.length ? bytes[place] : END;
        }

        void take(int sign) {
            if (peek() == sign) {
                place++;
            } else {
                fail(place);
            }
        }

        /** Which of these words stands here; a fault where none of them does. */
        int word(String words) {
            int from = place;
            int to = wordEnd();
            int begin = 0;
            int which = 0;
            for (int i = 0; i <= words.length(); i++) {
                if (i == words.length() || words.charAt(i) == ' ') {
                    if (i - begin == to - from && isSame(words, begin, i, from)) {
                        place = to;
                        return which;
                    }
                    which++;
                    begin = i + 1;
                }
            }
            fail(from);
            return NONE;
        }

        private int wordEnd() {
            int to = place;
            while (to < length && to < bytes.length && bytes[to] >= 'a' && bytes[to] <= 'z') {
                to++;
            }
            return to;
        }

        private boolean isSame(String words, int begin, int end, int from) {
            for (int i = begin; i < end; i++) {
                int j = from + i - begin;
                if (j < 0 || j >= bytes.length || bytes[j] != words.charAt(i)) {
                    return false;
                }
            }
            return true;
        }

        int number(int most) {
            int from = place;
            int value = 0;
            int figures = 0;
            while (figures < FIGURES_MOST && isFigure(peek())) {
                value = value * 10 + peek() - '0';
                place++;
                figures++;
            }
            if (figures == 0 || value > most) {
                fail(from);
                return 0;
            }
            return value;
        }

        private static boolean isFigure(int sign) {
            return sign >= '0' && sign <= '9';
        }

        /** A C; open: how many brackets stand open around it, which count as its own do. */
        Formula formula(String ofLetters, int open) {
            letters = ofLetters;
            codeLength = 0;
            part(COMPARISON, open);
            return new Formula(Arrays.copyOf(code, codeLength));
        }

        /** A part of a level, and what stands behind it there; open: how many - and ( stand open around it. */
        private void part(int level, int open) {
            if (level > PRODUCT) {
                operand(open);
                return;
            }
            part(level + 1, open);
            int times = level == COMPARISON ? 1 : TAPE_MOST;
            for (int i = 0; i < times; i++) {
                int sign = peek();
                if (signsOf(level).indexOf((char) sign) < 0) {
                    return;
                }
                place++;
                part(level + 1, open);
                emit(-sign);
            }
        }

        private static String signsOf(int level) {
            return level == COMPARISON ? "<=>" : level == SUM_OF ? "+-" : "*/%";
        }

        private void operand(int open) {
            int sign = peek();
            if (isFigure(sign)) {
                emit(number(CONSTANT_MOST));
                return;
            }
            if (sign != '-' && sign != '(') {
                letter();
                return;
            }
            if (open >= OPEN_MOST) {
                fail(place);
                return;
            }
            place++;
            if (sign == '-') {
                operand(open + 1);
                emit(Formula.NEGATED);
            } else {
                part(COMPARISON, open + 1);
                take(')');
            }
        }

        /** A letter is a word: where more of a .. z stand behind it, it's another one. */
        private void letter() {
            int letter = letters.indexOf((char) peek());
            if (letter < 0 || wordEnd() != place + 1) {
                fail(place);
                return;
            }
            place++;
            emit(Formula.LETTER + letter);
        }

        private void emit(int step) {
            if (codeLength < code.length) {
                code[codeLength] = step;
                codeLength++;
            }
        }

        /** A command; n may be ( C ) only where a policy tells it. */
        Command command(boolean ofPolicy) {
            int verb = word(VERB_WORDS);
            if (verb == NONE || verb == CLOSE_VERB) {
                return new Command(CLOSED, 0, 0, null);
            }
            take(' ');
            int amount = 0;
            Formula formula = null;
            if (ofPolicy && peek() == '(') {
                place++;
                formula = formula(EVENT_LETTERS, 1);
                take(')');
            } else {
                amount = number(AMOUNT_MOST);
            }
            int target = 0;
            if (verb == SENT) {
                take(' ');
                word("to");
                take(' ');
                target = number(STREAMS - 1);
            }
            return new Command(verb, amount, target, formula);
        }

        void readLines(Batch batch) {
            batch.clear();
            for (int i = 0; i < LINES_MOST; i++) {
                int stream = number(STREAMS - 1);
                take(':');
                batch.add(stream, command(false));
                if (peek() != ';') {
                    return;
                }
                place++;
            }
        }

        /** Kinds as a mask: bit k for KIND k. */
        int kinds() {
            int kind = word(KIND_WORDS_OR_ALL);
            if (kind == NONE || kind == ALL_WORD) {
                return ALL_KINDS;
            }
            int mask = 1 << kind;
            for (int i = 0; i < TAPE_MOST; i++) {
                if (peek() != '+') {
                    return mask;
                }
                place++;
                kind = word(KIND_WORDS);
                mask |= kind == NONE ? 0 : 1 << kind;
            }
            return mask;
        }

        Projection projection() {
            int fold = word(FOLD_WORDS);
            take(' ');
            word("of");
            take(' ');
            int kinds = kinds();
            take(' ');
            word("by");
            take(' ');
            int key = word(KEY_WORDS);
            Formula condition = always();
            if (peek() == ' ') {
                place++;
                word("if");
                take(' ');
                condition = formula(EVENT_LETTERS, 0);
            }
            return new Projection(fold, kinds, key, condition);
        }

        Policy policyText() {
            word("on");
            take(' ');
            int kinds = kinds();
            take(' ');
            Formula condition = always();
            if (word("if do") == 0) {
                take(' ');
                condition = formula(EVENT_LETTERS, 0);
                take(' ');
                word("do");
            }
            take(' ');
            return new Policy(kinds, condition, command(true));
        }

        private static Formula always() {
            int[] one = new int[1];
            one[0] = 1;
            return new Formula(one);
        }
    }

    /** A text C, as steps behind their operands; never changed. */
    private static final class Formula {
        static final int LETTER = 10000, NEGATED = -1000;

        // Seven levels of brackets hold three operands each, and one is to come.
        private static final int STACK = 32;

        private final int[] code;
        private final int[] stack;

        Formula(int[] code) {
            this.code = code;
            stack = new int[STACK];
        }

        int give(int[] letters) {
            int top = 0;
            for (int i = 0; i < code.length; i++) {
                int step = code[i];
                if (step >= 0) {
                    if (top >= stack.length) {
                        return 0;
                    }
                    stack[top] = step < LETTER ? step : letterOf(letters, step - LETTER);
                    top++;
                } else if (step == NEGATED) {
                    if (top < 1 || top > stack.length) {
                        return 0;
                    }
                    stack[top - 1] = -stack[top - 1];
                } else {
                    if (top < 2 || top > stack.length) {
                        return 0;
                    }
                    top--;
                    stack[top - 1] = join(-step, stack[top - 1], stack[top]);
                }
            }
            return top > 0 ? stack[0] : 0;
        }

        private static int letterOf(int[] letters, int letter) {
            return letter >= 0 && letter < letters.length ? letters[letter] : 0;
        }

        private static int join(int sign, int x, int y) {
            switch (sign) {
                case '+':
                    return x + y;
                case '-':
                    return x - y;
                case '*':
                    return x * y;
                case '/':
                    return y == 0 ? 0 : x / y;
                case '%':
                    return y == 0 ? 0 : x % y;
                case '<':
                    return x < y ? 1 : 0;
                case '=':
                    return x == y ? 1 : 0;
                default:
                    return x > y ? 1 : 0;
            }
        }
    }

    /** A command, told by the kind of the event that it makes; never changed. */
    private static final class Command {
        private final int kind;
        private final int amount;
        private final int target;
        private final Formula formula;

        Command(int kind, int amount, int target, Formula formula) {
            this.kind = kind;
            this.amount = amount;
            this.target = target;
            this.formula = formula;
        }

        int events() {
            return kind == SENT ? 2 : 1;
        }

        int amountBy(int[] letters) {
            return formula == null ? amount : Math.max(0, Math.min(AMOUNT_MOST, formula.give(letters)));
        }
    }

    /** The lines of a batch, and what comes of them in thought. */
    private static final class Batch {
        private final int[] streams;
        private final Command[] commands;
        private final Bins bins;
        private int size;
        private int through;
        private int events;
        private boolean refused;

        Batch() {
            streams = new int[LINES_MOST];
            commands = new Command[LINES_MOST];
            bins = new Bins();
        }

        void clear() {
            size = 0;
        }

        void add(int stream, Command command) {
            if (size < LINES_MOST) {
                streams[size] = stream;
                commands[size] = command;
                size++;
            }
        }

        int streamOf(int line) {
            return line >= 0 && line < size && line < streams.length ? streams[line] : 0;
        }

        Command commandOf(int line) {
            return line >= 0 && line < size && line < commands.length ? commands[line] : null;
        }

        void think(Bins now, int room) {
            bins.copyFrom(now);
            through = 0;
            events = 0;
            refused = false;
            for (int i = 0; i < size; i++) {
                Command command = commandOf(i);
                if (command == null) {
                    return;
                }
                if (bins.refusal(streamOf(i), command, command.amount) > 0) {
                    refused = true;
                    return;
                }
                if (events + command.events() > room) {
                    return;
                }
                carry(streamOf(i), command);
                events += command.events();
                through++;
            }
        }

        private void carry(int stream, Command command) {
            bins.change(stream, command.kind, command.amount);
            if (command.kind == SENT) {
                bins.change(command.target, GOT, command.amount);
            }
        }
    }

    /** The states of all streams. */
    private static final class Bins {
        private final int[] cells;

        Bins() {
            cells = new int[STREAMS * CELLS];
        }

        void clear() {
            Arrays.fill(cells, 0);
        }

        void copyFrom(Bins other) {
            System.arraycopy(other.cells, 0, cells, 0, cells.length);
        }

        int get(int stream, int what) {
            int i = stream * CELLS + what;
            return i >= 0 && i < cells.length ? cells[i] : 0;
        }

        private void put(int stream, int what, int value) {
            int i = stream * CELLS + what;
            if (i >= 0 && i < cells.length) {
                cells[i] = value;
            }
        }

        private void more(int stream, int what, int value) {
            put(stream, what, get(stream, what) + value);
        }

        /** What an event does, whose A is read. */
        void change(int stream, int kind, int a) {
            switch (kind) {
                case OPENED:
                    put(stream, OPEN, 1);
                    put(stream, PRICE, a);
                    break;
                case PUT:
                case GOT:
                    more(stream, STOCK, a);
                    break;
                case TAKEN:
                case SENT:
                    more(stream, STOCK, -a);
                    break;
                case HELD:
                    more(stream, HOLD, a);
                    break;
                case FREED:
                    more(stream, HOLD, -a);
                    break;
                case PRICED:
                    put(stream, PRICE, a);
                    break;
                case CLOSED:
                    put(stream, OPEN, 2);
                    break;
                default:
                    break;
            }
        }

        /** The number by which a command is refused; 0: it is not. */
        int refusal(int stream, Command command, int amount) {
            int open = get(stream, OPEN);
            if (command.kind == OPENED) {
                return open == 0 ? 0 : 22;
            }
            if (open != 1) {
                return 21;
            }
            boolean tooMuch = amount > get(stream, STOCK) - get(stream, HOLD);
            switch (command.kind) {
                case TAKEN:
                case HELD:
                    return tooMuch ? 23 : 0;
                case FREED:
                    return amount > get(stream, HOLD) ? 23 : 0;
                case SENT:
                    if (command.target == stream || get(command.target, OPEN) != 1) {
                        return 25;
                    }
                    return tooMuch ? 23 : 0;
                case CLOSED:
                    return get(stream, STOCK) == 0 ? 0 : 24;
                default:
                    return 0;
            }
        }

        long worthOfOpen() {
            long sum = 0;
            for (int stream = 0; stream < STREAMS; stream++) {
                if (get(stream, OPEN) == 1) {
                    sum += (long) get(stream, STOCK) * get(stream, PRICE);
                }
            }
            return sum;
        }
    }

    /** The events as written, and their texts. */
    private static final class Log {
        private static final int LINE_MOST = 80;

        private final int[] cells;
        private final int[] versions;
        private final int[] line;
        private int lineLength;
        private int length;

        Log() {
            cells = new int[(EVENTS_MOST + 1) * COLUMNS];
            versions = new int[STREAMS];
            line = new int[LINE_MOST];
        }

        void copyFrom(Log other) {
            System.arraycopy(other.cells, 0, cells, 0, cells.length);
            System.arraycopy(other.versions, 0, versions, 0, versions.length);
            length = other.length;
        }

        boolean has(int position) {
            return within(position, 1, length);
        }

        int room() {
            return EVENTS_MOST - length;
        }

        int get(int position, int column) {
            int i = has(position) ? position * COLUMNS + column : 0;
            return i >= 0 && i < cells.length ? cells[i] : 0;
        }

        int versionOf(int stream) {
            return stream >= 0 && stream < versions.length ? versions[stream] : 0;
        }

        void add(int stream, int kind, int format, int a, int b) {
            if (room() < 1 || stream < 0 || stream >= versions.length) {
                return;
            }
            length++;
            versions[stream]++;
            put(AT_STREAM, stream);
            put(AT_VERSION, versions[stream]);
            put(AT_KIND, kind);
            put(AT_FORMAT, format);
            put(AT_A, a);
            put(AT_B, b);
        }

        private void put(int column, int value) {
            int i = length * COLUMNS + column;
            if (i >= 0 && i < cells.length) {
                cells[i] = value;
            }
        }

        int positionOf(int stream, int version) {
            for (int i = 1; i <= length; i++) {
                if (get(i, AT_STREAM) == stream && get(i, AT_VERSION) == version) {
                    return i;
                }
            }
            return BAD;
        }

        int streamsUsed() {
            int used = 0;
            for (int i = 0; i < versions.length; i++) {
                used += versions[i] > 0 ? 1 : 0;
            }
            return used;
        }

        /** Whether all events of a stream behind a version are of these kinds. */
        boolean onlyThese(int kinds, int stream, int version) {
            for (int i = 1; i <= length; i++) {
                boolean since = get(i, AT_STREAM) == stream && get(i, AT_VERSION) > version;
                if (since && (kinds >> get(i, AT_KIND) & 1) == 0) {
                    return false;
                }
            }
            return true;
        }

        /** Writes the text of an event, for written() to tell: how long it is. */
        int write(int position) {
            lineLength = 0;
            writeNumber(position);
            writeSign(':');
            writeKind(get(position, AT_KIND));
            writeSign(' ');
            writeNumber(get(position, AT_STREAM));
            writeSign('.');
            writeNumber(get(position, AT_VERSION));
            writeSign(' ');
            writeSign('a');
            writeSign('=');
            writeNumber(get(position, AT_A));
            writeSign(' ');
            writeSign('b');
            writeSign('=');
            writeNumber(get(position, AT_B));
            writeSign(' ');
            writeSign('f');
            writeNumber(get(position, AT_FORMAT));
            return lineLength;
        }

        int written(int i) {
            return i >= 0 && i < lineLength && i < line.length ? line[i] : 0;
        }

        private void writeSign(int sign) {
            if (lineLength < line.length) {
                line[lineLength] = sign;
                lineLength++;
            }
        }

        private void writeKind(int kind) {
            int which = 0;
            for (int i = 0; i < KIND_WORDS.length(); i++) {
                char sign = KIND_WORDS.charAt(i);
                if (sign == ' ') {
                    which++;
                } else if (which == kind) {
                    writeSign(sign);
                }
            }
        }

        private void writeNumber(int number) {
            long rest = number;
            if (rest < 0) {
                writeSign('-');
                rest = -rest;
            }
            long unit = 1000000000L;
            boolean begun = false;
            for (int i = 0; i < 10; i++) {
                int figure = 0;
                while (figure < 9 && rest >= unit) {
                    rest -= unit;
                    figure++;
                }
                begun = begun || figure > 0 || i == 9;
                if (begun) {
                    writeSign('0' + figure);
                }
                unit /= 10;
            }
        }
    }

    /** The upcasters, and the reading of events by them. */
    private static final class Formats {
        private final int[] sizes;
        private final Formula[] toA;
        private final Formula[] toB;
        private final int[] letters;
        private int era;

        Formats() {
            sizes = new int[KINDS];
            toA = new Formula[KINDS * UPCASTERS_MOST];
            toB = new Formula[KINDS * UPCASTERS_MOST];
            letters = new int[EVENT_LETTERS.length()];
        }

        void copyFrom(Formats other) {
            System.arraycopy(other.sizes, 0, sizes, 0, sizes.length);
            for (int i = 0; i < KINDS * UPCASTERS_MOST; i++) {
                toA[i] = other.toA[i];
                toB[i] = other.toB[i];
            }
            era = other.era;
        }

        int formatOf(int kind) {
            return kind >= 0 && kind < sizes.length ? sizes[kind] + 1 : 1;
        }

        int add(int kind, Formula a, Formula b) {
            if (kind < 0 || kind >= sizes.length) {
                return BAD;
            }
            if (sizes[kind] >= UPCASTERS_MOST) {
                return FULL;
            }
            int i = kind * UPCASTERS_MOST + sizes[kind];
            if (i < 0 || i >= toA.length || i >= toB.length) {
                return FULL;
            }
            toA[i] = a;
            toB[i] = b;
            sizes[kind]++;
            era++;
            return formatOf(kind);
        }

        /** What the letters of an event are, the last one read. */
        int letter(int which) {
            return which >= 0 && which < letters.length ? letters[which] : 0;
        }

        void read(Log log, int position) {
            letters[LETTER_A] = log.get(position, AT_A);
            letters[LETTER_B] = log.get(position, AT_B);
            letters[LETTER_S] = log.get(position, AT_STREAM);
            int kind = log.get(position, AT_KIND);
            for (int format = log.get(position, AT_FORMAT); format < formatOf(kind); format++) {
                int i = kind * UPCASTERS_MOST + format - 1;
                if (i >= 0 && i < toA.length && i < toB.length) {
                    change(toA[i], toB[i]);
                }
            }
        }

        private void change(Formula a, Formula b) {
            if (a == null || b == null) {
                return;
            }
            int newA = a.give(letters);
            int newB = b.give(letters);
            letters[LETTER_A] = newA;
            letters[LETTER_B] = newB;
        }
    }

    /** The latest snapshots of each stream. A good one's state is what the fold gives, so it need not be held. */
    private static final class Snapshots {
        private final int[] versions;
        private final int[] eras;
        private final int[] sizes;

        Snapshots() {
            versions = new int[STREAMS * SNAPSHOTS_KEPT];
            eras = new int[STREAMS * SNAPSHOTS_KEPT];
            sizes = new int[STREAMS];
        }

        void copyFrom(Snapshots other) {
            System.arraycopy(other.versions, 0, versions, 0, versions.length);
            System.arraycopy(other.eras, 0, eras, 0, eras.length);
            System.arraycopy(other.sizes, 0, sizes, 0, sizes.length);
        }

        void add(int stream, int version, int era) {
            if (stream < 0 || stream >= sizes.length) {
                return;
            }
            int first = stream * SNAPSHOTS_KEPT;
            if (sizes[stream] >= SNAPSHOTS_KEPT) {
                dropOldest(first);
                sizes[stream] = SNAPSHOTS_KEPT - 1;
            }
            int i = first + sizes[stream];
            if (i >= 0 && i < versions.length && i < eras.length) {
                versions[i] = version;
                eras[i] = era;
                sizes[stream]++;
            }
        }

        private void dropOldest(int first) {
            for (int i = first; i < first + SNAPSHOTS_KEPT - 1; i++) {
                if (i >= 0 && i + 1 < versions.length && i + 1 < eras.length) {
                    versions[i] = versions[i + 1];
                    eras[i] = eras[i + 1];
                }
            }
        }

        int sizeOf(int stream) {
            return stream >= 0 && stream < sizes.length ? sizes[stream] : 0;
        }

        private boolean isGood(int i, int era) {
            return i >= 0 && i < eras.length && eras[i] == era;
        }

        int goodOf(int stream, int era) {
            int good = 0;
            for (int i = 0; i < sizeOf(stream); i++) {
                good += isGood(stream * SNAPSHOTS_KEPT + i, era) ? 1 : 0;
            }
            return good;
        }

        /** The latest version up to this one that has a good snapshot; 0: none. */
        int latestGood(int stream, int version, int era) {
            int latest = 0;
            for (int i = 0; i < sizeOf(stream); i++) {
                int j = stream * SNAPSHOTS_KEPT + i;
                if (isGood(j, era) && j < versions.length && versions[j] <= version) {
                    latest = Math.max(latest, versions[j]);
                }
            }
            return latest;
        }

        int total() {
            int sum = 0;
            for (int i = 0; i < sizes.length; i++) {
                sum += sizes[i];
            }
            return sum;
        }
    }

    /** A projection: its text, which never changes, and how far it has come. */
    private static final class Projection {
        private final int fold;
        private final int kinds;
        private final int key;
        private final Formula condition;
        private final int[] rows;
        private int present;
        private int checkpoint;

        Projection(int fold, int kinds, int key, Formula condition) {
            this.fold = fold;
            this.kinds = kinds;
            this.key = key;
            this.condition = condition;
            rows = new int[KINDS];
        }

        Projection afresh() {
            return new Projection(fold, kinds, key, condition);
        }

        Projection copy() {
            Projection copy = afresh();
            System.arraycopy(rows, 0, copy.rows, 0, rows.length);
            copy.present = present;
            copy.checkpoint = checkpoint;
            return copy;
        }

        boolean has(int row) {
            return row >= 0 && row < rows.length && (present >> row & 1) == 1;
        }

        /** Handles an event that was read: its letters. */
        void handle(int kind, int[] letters) {
            if ((kinds >> kind & 1) == 0 || letters.length <= LETTER_S || condition.give(letters) == 0) {
                return;
            }
            int row = key == BY_STREAM ? letters[LETTER_S] : key == BY_KIND ? kind : 0;
            if (row < 0 || row >= rows.length) {
                return;
            }
            rows[row] = has(row) ? folded(rows[row], letters[LETTER_A]) : fold == COUNT ? 1 : letters[LETTER_A];
            present |= 1 << row;
        }

        private int folded(int before, int a) {
            switch (fold) {
                case SUM:
                    return before + a;
                case COUNT:
                    return before + 1;
                case MOST:
                    return Math.max(before, a);
                case LEAST:
                    return Math.min(before, a);
                case FIRST:
                    return before;
                default:
                    return a;
            }
        }

        int size() {
            return Integer.bitCount(present);
        }

        int sum() {
            int sum = 0;
            for (int i = 0; i < rows.length; i++) {
                sum += has(i) ? rows[i] : 0;
            }
            return sum;
        }

        boolean sameRows(Projection other) {
            for (int i = 0; i < rows.length && i < other.rows.length; i++) {
                if (has(i) != other.has(i) || has(i) && rows[i] != other.rows[i]) {
                    return false;
                }
            }
            return true;
        }
    }

    /** A policy: its text, which never changes, and how far it has come. */
    private static final class Policy {
        private final int kinds;
        private final Formula condition;
        private final Command command;
        private int checkpoint;
        private int done;
        private int refused;

        Policy(int kinds, Formula condition, Command command) {
            this.kinds = kinds;
            this.condition = condition;
            this.command = command;
        }

        Policy copy() {
            Policy copy = new Policy(kinds, condition, command);
            copy.checkpoint = checkpoint;
            copy.done = done;
            copy.refused = refused;
            return copy;
        }

        boolean isFor(int kind, int[] letters) {
            return (kinds >> kind & 1) == 1 && condition.give(letters) != 0;
        }
    }

    /** All that an image keeps. */
    private static final class Store {
        private final Log log;
        private final Bins bins;
        private final Bins past;
        private final Formats formats;
        private final Snapshots snapshots;
        private final int[] answers;
        private final Projection[] live;
        private final Projection[] beside;
        private final Policy[] policies;
        private final int[] seenStream;
        private final int[] seenVersion;
        private final int[] led;
        private final int[] stateLetters;
        private int every;
        private int harmless;

        Store() {
            log = new Log();
            bins = new Bins();
            past = new Bins();
            formats = new Formats();
            snapshots = new Snapshots();
            answers = new int[NUMBER_MOST + 1];
            live = new Projection[SLOTS];
            beside = new Projection[SLOTS];
            policies = new Policy[SLOTS];
            seenStream = new int[SLOTS];
            Arrays.fill(seenStream, NONE);
            seenVersion = new int[SLOTS];
            led = new int[LEDS];
            stateLetters = new int[STATE_LETTERS.length()];
        }

        void copyFrom(Store other) {
            log.copyFrom(other.log);
            bins.copyFrom(other.bins);
            formats.copyFrom(other.formats);
            snapshots.copyFrom(other.snapshots);
            System.arraycopy(other.answers, 0, answers, 0, answers.length);
            for (int i = 0; i < SLOTS; i++) {
                live[i] = other.live[i] == null ? null : other.live[i].copy();
                beside[i] = other.beside[i] == null ? null : other.beside[i].copy();
                policies[i] = other.policies[i] == null ? null : other.policies[i].copy();
            }
            System.arraycopy(other.seenStream, 0, seenStream, 0, seenStream.length);
            System.arraycopy(other.seenVersion, 0, seenVersion, 0, seenVersion.length);
            System.arraycopy(other.led, 0, led, 0, led.length);
            every = other.every;
            harmless = other.harmless;
        }

        private void tell(int what) {
            if (what >= 0 && what < led.length) {
                led[what]++;
            }
        }

        int asked(int stream, int expected, int number, Command command) {
            boolean numbered = number > 0 && number < answers.length;
            if (numbered && answers[number] > 0) {
                tell(REPEATED);
                return answers[number];
            }
            if (expected != ANY && expected != log.versionOf(stream)) {
                tell(CONFLICTS);
                return CONFLICT;
            }
            int answer = carry(stream, command, command.amount);
            if (numbered && answer > 0) {
                answers[number] = answer;
            }
            return answer;
        }

        /** Asks a command of a stream: its version then, less the number by which it is refused, or FULL. */
        private int carry(int stream, Command command, int amount) {
            int refusal = bins.refusal(stream, command, amount);
            if (refusal > 0) {
                tell(REFUSED);
                return -refusal;
            }
            if (command.events() > log.room()) {
                return FULL;
            }
            if (command.kind == SENT) {
                come(stream, SENT, amount, command.target);
                come(command.target, GOT, amount, stream);
            } else {
                come(stream, command.kind, amount, 0);
            }
            tell(DONE);
            return log.versionOf(stream);
        }

        private void come(int stream, int kind, int a, int b) {
            log.add(stream, kind, formats.formatOf(kind), a, b);
            bins.change(stream, kind, a);
            int version = log.versionOf(stream);
            if (every > 0 && version % every == 0) {
                snapshots.add(stream, version, formats.era);
            }
        }

        int carryAll(Batch lines) {
            lines.think(bins, log.room());
            if (lines.through < lines.size) {
                if (lines.refused) {
                    tell(REFUSED);
                }
                return LINE_FAILED - lines.through;
            }
            for (int i = 0; i < lines.size; i++) {
                Command command = lines.commandOf(i);
                if (command != null) {
                    carry(lines.streamOf(i), command, command.amount);
                }
            }
            return lines.events;
        }

        int addUpcaster(int kind, Formula a, Formula b) {
            int answer = formats.add(kind, a, b);
            if (answer > 0) {
                foldPast(log.length);
                bins.copyFrom(past);
            }
            return answer;
        }

        /** Lets past be the states at a position, as read now. */
        void foldPast(int position) {
            past.clear();
            for (int i = 1; i <= position && i <= log.length; i++) {
                changePast(i);
            }
        }

        private void changePast(int position) {
            formats.read(log, position);
            past.change(log.get(position, AT_STREAM), log.get(position, AT_KIND), formats.letter(LETTER_A));
        }

        Projection projectionOf(int p, int which) {
            if (p < 0 || p >= SLOTS) {
                return null;
            }
            return which == 0 ? live[p] : beside[p];
        }

        int handOver(Projection projection, int from, int n) {
            int handled = 0;
            for (int i = 0; i < n; i++) {
                if (from > log.length - i) {
                    return handled;
                }
                int position = from + i;
                if (position > projection.checkpoint + 1) {
                    tell(GAPS);
                    return handled;
                }
                if (position <= projection.checkpoint) {
                    tell(SKIPPED);
                } else {
                    handle(projection, position);
                    tell(HANDLED);
                    handled++;
                }
            }
            return handled;
        }

        private void handle(Projection projection, int position) {
            formats.read(log, position);
            projection.handle(log.get(position, AT_KIND), formats.letters);
            projection.checkpoint = position;
        }

        boolean isTrue(Projection projection) {
            Projection again = projection.afresh();
            for (int i = 1; i <= projection.checkpoint && i <= log.length; i++) {
                handle(again, i);
            }
            return projection.sameRows(again);
        }

        int liveOnes() {
            int ones = 0;
            for (int i = 0; i < live.length; i++) {
                ones += live[i] == null ? 0 : 1;
            }
            return ones;
        }

        int numbersUsed() {
            int used = 0;
            for (int i = 0; i < answers.length; i++) {
                used += answers[i] > 0 ? 1 : 0;
            }
            return used;
        }

        int runPolicy(Policy policy, int n) {
            int handled = 0;
            while (handled < n && policy.checkpoint < log.length) {
                if (!hasHandled(policy, policy.checkpoint + 1)) {
                    return handled;
                }
                policy.checkpoint++;
                handled++;
            }
            return handled;
        }

        /** Whether a policy could handle an event: the log may have no room for what it asks. */
        private boolean hasHandled(Policy policy, int position) {
            formats.read(log, position);
            if (!policy.isFor(log.get(position, AT_KIND), formats.letters)) {
                return true;
            }
            int amount = policy.command.amountBy(formats.letters);
            int answer = carry(log.get(position, AT_STREAM), policy.command, amount);
            if (answer == FULL) {
                return false;
            }
            if (answer > 0) {
                policy.done++;
            } else {
                policy.refused++;
            }
            return true;
        }

        int tried(int client, boolean forgiving, Command command) {
            if (client < 0 || client >= seenStream.length || client >= seenVersion.length) {
                return BAD;
            }
            int stream = seenStream[client];
            int version = seenVersion[client];
            boolean same = log.versionOf(stream) == version;
            if (!same && !(forgiving && log.onlyThese(harmless, stream, version))) {
                tell(CONFLICTS);
                return CONFLICT;
            }
            int answer = carry(stream, command, command.amount);
            if (answer > 0) {
                seenVersion[client] = answer;
            }
            return answer;
        }

        int watched(int stream, int what, Formula watch) {
            int first = NOT;
            int last = NOT;
            int times = 0;
            int inRow = 0;
            int longest = 0;
            past.clear();
            for (int position = 0; position <= log.length; position++) {
                int version = 0;
                if (position > 0) {
                    if (log.get(position, AT_STREAM) != stream) {
                        continue;
                    }
                    version = log.get(position, AT_VERSION);
                    changePast(position);
                }
                if (!isSeen(watch, stream, version)) {
                    inRow = 0;
                    continue;
                }
                first = first == NOT ? version : first;
                last = version;
                times++;
                inRow++;
                longest = Math.max(longest, inRow);
            }
            return what == 0 ? first : what == 1 ? times : what == 2 ? longest : last;
        }

        private boolean isSeen(Formula watch, int stream, int version) {
            for (int i = 0; i < CELLS && i < stateLetters.length; i++) {
                stateLetters[i] = past.get(stream, i);
            }
            if (VERSION < stateLetters.length) {
                stateLetters[VERSION] = version;
            }
            return watch.give(stateLetters) != 0;
        }

        int tallied(int kind, int from, int to, int what) {
            int times = 0;
            int sum = 0;
            int most = VOID;
            for (int i = from; i <= to && i <= log.length; i++) {
                if (log.get(i, AT_KIND) == kind) {
                    formats.read(log, i);
                    int a = formats.letter(LETTER_A);
                    most = times == 0 ? a : Math.max(most, a);
                    sum += a;
                    times++;
                }
            }
            return what == 0 ? times : what == 1 ? sum : most;
        }
    }
}
