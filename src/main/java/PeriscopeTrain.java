/** A row of mirrors that hands light on, gets shaken and dusty, and is kept up by a crew. */
public final class PeriscopeTrain {
    private static final int MAX_TAPE = 2000;
    private static final int MAX_TOKENS = 400;
    private static final int MAX_WORD = 10;
    private static final int MAX_DIGITS = 6;
    private static final int MAX_DEPTH = 8;
    private static final int MAX_MIRRORS = 10;
    private static final int MAX_ORDERS = 16;
    private static final int MAX_JOBS = 12;
    private static final int MAX_CLARITY = 100;
    private static final int MAX_OFFSET = 90;
    private static final int MAX_WIDTH = 180;
    private static final int MAX_LIMIT = 10000;
    private static final int MAX_DUST = 100;
    private static final int MAX_MINUTES = 100;
    private static final int MAX_MINUTES_TO_DONE = 300;
    private static final int FIRST_WIDTH = 60;
    private static final int FIRST_LIMIT = 1000;
    private static final int FULL_LIGHT = 10000;
    private static final int MINUTES_TO_REPLACE = 20;
    private static final int NO_MIRROR = -1;

    private static final int JOB_CLEAN = 0;
    private static final int JOB_ALIGN = 1;
    private static final int JOB_REPLACE = 2;

    // Kinds of tokens, which are the steps of a plan, too. A symbol of one byte is its own kind,
    // so these keep away from 32 to 127.
    private static final int END = 0;
    private static final int BAD = 1;
    private static final int NAME = 2;
    private static final int NUMBER = 3;
    private static final int AT_MOST = 4;
    private static final int AT_LEAST = 5;
    private static final int NEGATE = 6;
    private static final int ALWAYS = 7;

    private static final int MIRROR = 128;
    private static final int CLARITY = 129;
    private static final int OFFSET = 130;
    private static final int WIDTH = 131;
    private static final int LIMIT = 132;
    private static final int SHAKE = 133;
    private static final int BY = 134;
    private static final int DUST = 135;
    private static final int CLEAN = 136;
    private static final int ALIGN = 137;
    private static final int REPLACE = 138;
    private static final int WHEN = 139;
    private static final int MINUTE = 140;
    private static final int LIGHT = 141;
    private static final int JOBS = 142;
    private static final int LOST = 143;
    private static final int TILT = 144;
    private static final int BEST = 145;
    private static final int OF = 146;
    private static final int SEEN = 147;
    private static final int WAITS = 148;
    private static final int NOT = 149;
    private static final int AND = 150;
    private static final int OR = 151;
    private static final int MIN = 152;
    private static final int MAX = 153;

    private final Tape tape;
    private final Tokens tokens;
    private final Grammar grammar;
    private final Meaning meaning;
    private final Plan draft;
    private final Plan plan;
    private final World now;
    private final World would;
    private int errorPosition;

    public PeriscopeTrain() {
        tape = new Tape();
        tokens = new Tokens(tape);
        draft = new Plan();
        grammar = new Grammar(tokens, draft);
        meaning = new Meaning(tape, tokens, draft);
        plan = new Plan();
        now = new World(plan);
        would = new World(plan);
        errorPosition = -1;
    }

    // ---- the language

    public int feed(int a, int b, int c, int d, int e) throws IllegalStateException {
        if (tape.length > MAX_TAPE - 20) {
            throw new IllegalStateException("the tape would be too long");
        }
        tape.append(a);
        tape.append(b);
        tape.append(c);
        tape.append(d);
        tape.append(e);
        return tape.length;
    }

    public int trim(int n) throws IllegalArgumentException {
        if (n < 0 || n > tape.length) {
            throw new IllegalArgumentException("the tape does not have so many bytes");
        }
        tape.length = n;
        return n;
    }

    public int teach() {
        tokens.readTape();
        int error = 1;
        int wrong = grammar.firstMisfit();
        if (wrong < 0) {
            wrong = meaning.firstMistake();
            error = meaning.error;
        }
        errorPosition = wrong < 0 ? -1 : tokens.positionOf(wrong);
        tape.length = 0;
        if (wrong >= 0) {
            return error;
        }
        plan.takeOver(draft, tokens);
        now.begin();
        return 0;
    }

    public int errorAt() {
        return errorPosition;
    }

    // ---- the train

    public int mirrors() {
        return now.row.count;
    }

    public int orders() {
        return plan.orders;
    }

    public int minutes() {
        return now.minute;
    }

    public int tapeBytes() {
        return tape.length;
    }

    public int lightAtEnd() {
        return now.row.lastLight();
    }

    public int tiltAtEnd() {
        return now.row.lastTilt();
    }

    public boolean isSeen() {
        return now.row.showsLight();
    }

    public int worstMirror() throws IllegalStateException {
        if (now.row.count == 0) {
            throw new IllegalStateException("there are no mirrors");
        }
        return now.row.mostLosing();
    }

    // ---- mirrors

    public int clarityOf(int mirror) throws IndexOutOfBoundsException {
        checkMirror(mirror);
        return now.row.valueOf(CLARITY, mirror);
    }

    public int bestClarityOf(int mirror) throws IndexOutOfBoundsException {
        checkMirror(mirror);
        return now.row.valueOf(BEST, mirror);
    }

    public int offsetOf(int mirror) throws IndexOutOfBoundsException {
        checkMirror(mirror);
        return now.row.valueOf(OFFSET, mirror);
    }

    public int placeOf(int mirror) throws IndexOutOfBoundsException {
        checkMirror(mirror);
        return now.row.findPlace(mirror);
    }

    public int lightBehind(int mirror) throws IndexOutOfBoundsException {
        checkMirror(mirror);
        return now.row.valueOf(LIGHT, mirror);
    }

    public int lostAt(int mirror) throws IndexOutOfBoundsException {
        checkMirror(mirror);
        return now.row.valueOf(LOST, mirror);
    }

    public int tiltBehind(int mirror) throws IndexOutOfBoundsException {
        checkMirror(mirror);
        return now.row.valueOf(TILT, mirror);
    }

    public boolean isCovered(int mirror) throws IndexOutOfBoundsException {
        checkMirror(mirror);
        return now.row.covered == mirror;
    }

    public int mirrorAt(int place) throws IndexOutOfBoundsException {
        if (place < 0 || place >= now.row.count) {
            throw new IndexOutOfBoundsException("there is no such place in the row");
        }
        return now.row.mirrorIn(place);
    }

    // ---- jobs

    public int jobs() {
        return now.queue.size;
    }

    public int jobsDone() {
        return now.queue.done;
    }

    public int kindOfJob(int place) throws IndexOutOfBoundsException {
        checkJob(place);
        return now.queue.kindIn(place);
    }

    public int mirrorOfJob(int place) throws IndexOutOfBoundsException {
        checkJob(place);
        return now.queue.mirrorIn(place);
    }

    public int minutesToGo() {
        return now.queue.toGo;
    }

    // ---- by hand

    public int orderJob(int mirror, int kind)
            throws IndexOutOfBoundsException, IllegalArgumentException, IllegalStateException {
        checkMirror(mirror);
        if (kind < JOB_CLEAN || kind > JOB_REPLACE) {
            throw new IllegalArgumentException("there is no such kind of job");
        }
        if (!now.queue.takesIn(kind, mirror)) {
            throw new IllegalStateException("the queue is full or has this job");
        }
        now.queue.add(kind, mirror);
        return now.queue.size;
    }

    public int cancelJob(int place) throws IndexOutOfBoundsException {
        checkJob(place);
        int mirror = now.queue.mirrorIn(place);
        now.dropJob(place);
        return mirror;
    }

    public int turnMirror(int mirror, int offset)
            throws IndexOutOfBoundsException, IllegalArgumentException {
        checkMirror(mirror);
        if (offset < -MAX_OFFSET || offset > MAX_OFFSET) {
            throw new IllegalArgumentException("a mirror can't be turned so far");
        }
        int before = now.row.valueOf(OFFSET, mirror);
        now.row.turn(mirror, offset);
        return before;
    }

    public int dustMirror(int mirror, int dust)
            throws IndexOutOfBoundsException, IllegalArgumentException {
        checkMirror(mirror);
        if (dust < 0 || dust > MAX_DUST) {
            throw new IllegalArgumentException("there is no such dust");
        }
        // By hand the clarity is not held at the best one: only an order of dust does that.
        now.row.dim(mirror, dust, MAX_CLARITY);
        return now.row.valueOf(CLARITY, mirror);
    }

    public int moveMirror(int mirror, int place) throws IndexOutOfBoundsException {
        checkMirror(mirror);
        if (place < 0 || place >= now.row.count) {
            throw new IndexOutOfBoundsException("there is no such place in the row");
        }
        int before = now.row.findPlace(mirror);
        now.row.move(mirror, place);
        return before;
    }

    // ---- minutes and what would be

    public int passMinutes(int minutes) throws IllegalArgumentException {
        checkMinutes(minutes);
        int before = now.queue.done;
        now.pass(minutes);
        return now.queue.done - before;
    }

    public int lightAfter(int minutes) throws IllegalArgumentException {
        checkMinutes(minutes);
        would.copy(now);
        would.pass(minutes);
        return would.row.lastLight();
    }

    public int minutesUntilSeen() {
        would.copy(now);
        for (int gone = 0; gone <= MAX_MINUTES; gone++) {
            if (would.row.showsLight()) {
                return gone;
            }
            would.pass(1);
        }
        return -1;
    }

    public int minutesUntilDone(int place) throws IndexOutOfBoundsException {
        checkJob(place);
        would.copy(now);
        // Jobs leave the queue from its beginning only, so this one is done as the last of so many.
        int doneThen = now.queue.done + place + 1;
        for (int gone = 1; gone <= MAX_MINUTES_TO_DONE; gone++) {
            would.pass(1);
            if (would.queue.done >= doneThen) {
                return gone;
            }
        }
        return -1;
    }

    public int bestToClean() {
        int found = NO_MIRROR;
        int most = now.row.lastLight();
        for (int mirror = 0; mirror < now.row.count; mirror++) {
            would.row.copy(now.row);
            would.row.clean(mirror);
            int light = would.row.lastLight();
            if (light > most) {
                most = light;
                found = mirror;
            }
        }
        return found;
    }

    public int bestOffset(int mirror) throws IndexOutOfBoundsException {
        checkMirror(mirror);
        would.row.copy(now.row);
        int found = 0;
        int most = lightIfTurned(mirror, 0);
        for (int offset = 1; offset <= MAX_OFFSET; offset++) {
            int right = lightIfTurned(mirror, offset);
            if (right > most) {
                most = right;
                found = offset;
            }
            int left = lightIfTurned(mirror, -offset);
            if (left > most) {
                most = left;
                found = -offset;
            }
        }
        return found;
    }

    public double meanClarity() {
        int count = now.row.count;
        if (count == 0) {
            return 0.0;
        }
        int sum = 0;
        for (int mirror = 0; mirror < count; mirror++) {
            sum += now.row.valueOf(CLARITY, mirror);
        }
        return (double) sum / (double) count;
    }

    public long digest() {
        long d = 983;
        d = d * 31 + mirrors();
        d = d * 31 + orders();
        d = d * 31 + minutes();
        d = d * 31 + tapeBytes();
        d = d * 31 + lightAtEnd();
        d = d * 31 + tiltAtEnd();
        d = d * 31 + (isSeen() ? 1 : 0);
        for (int mirror = 0; mirror < now.row.count; mirror++) {
            d = digestOfMirror(d, mirror);
        }
        d = d * 31 + jobs();
        d = d * 31 + jobsDone();
        d = d * 31 + minutesToGo();
        for (int place = 0; place < now.queue.size; place++) {
            d = d * 31 + now.queue.kindIn(place);
            d = d * 31 + now.queue.mirrorIn(place);
        }
        return d;
    }

    private long digestOfMirror(long before, int mirror) {
        long d = before;
        d = d * 31 + now.row.valueOf(CLARITY, mirror);
        d = d * 31 + now.row.valueOf(BEST, mirror);
        d = d * 31 + now.row.valueOf(OFFSET, mirror);
        d = d * 31 + now.row.findPlace(mirror);
        d = d * 31 + now.row.valueOf(LIGHT, mirror);
        d = d * 31 + now.row.valueOf(LOST, mirror);
        d = d * 31 + now.row.valueOf(TILT, mirror);
        d = d * 31 + (now.row.covered == mirror ? 1 : 0);
        return d;
    }

    private int lightIfTurned(int mirror, int offset) {
        would.row.turn(mirror, offset);
        return would.row.lastLight();
    }

    private void checkMirror(int mirror) {
        if (mirror < 0 || mirror >= now.row.count) {
            throw new IndexOutOfBoundsException("there is no such mirror");
        }
    }

    private void checkJob(int place) {
        if (place < 0 || place >= now.queue.size) {
            throw new IndexOutOfBoundsException("there is no job at this place");
        }
    }

    private static void checkMinutes(int minutes) {
        if (minutes < 1 || minutes > MAX_MINUTES) {
            throw new IllegalArgumentException("minutes are 1 to 100");
        }
    }

    private static boolean isOrder(int kind) {
        return kind == SHAKE || kind == DUST || kind == CLEAN || kind == ALIGN || kind == REPLACE;
    }

    private static boolean isOrderBySum(int kind) {
        return kind == SHAKE || kind == DUST;
    }

    /** A value, or the bound nearest to it; as a long, so that nothing wraps around. */
    private static int hold(long value, int least, int most) {
        return (int) Math.max(least, Math.min(most, value));
    }

    /** The bytes that were fed and not taught yet. */
    private static final class Tape {
        private final byte[] bytes = new byte[MAX_TAPE];
        private int length;

        /** Appends the four bytes of a number, the highest one first. */
        void append(int number) {
            for (int shift = 24; shift >= 0 && length < MAX_TAPE; shift -= 8) {
                bytes[length] = (byte) (number >> shift);
                length++;
            }
        }

        /** The byte at a position, 0 to 255; -1 where the tape has none. */
        int byteAt(int position) {
            return position >= 0 && position < length ? bytes[position] & 255 : -1;
        }

        int skipBlanks(int from) {
            int position = from;
            while (position < length && isBlank(byteAt(position))) {
                position++;
            }
            return position;
        }

        int skipDigits(int from) {
            int position = from;
            while (position < length && isDigit(byteAt(position))) {
                position++;
            }
            return position;
        }

        int skipLettersAndDigits(int from) {
            int position = from;
            while (position < length
                    && (isLetter(byteAt(position)) || isDigit(byteAt(position)))) {
                position++;
            }
            return position;
        }

        boolean holdsText(String text, int position, int size) {
            if (text.length() != size) {
                return false;
            }
            for (int i = 0; i < size; i++) {
                if (byteAt(position + i) != text.charAt(i)) {
                    return false;
                }
            }
            return true;
        }

        boolean holdsSame(int one, int other, int size) {
            if (one < 0 || one > length - size || other < 0 || other > length - size) {
                return false;
            }
            for (int i = 0; i < size; i++) {
                if (bytes[one + i] != bytes[other + i]) {
                    return false;
                }
            }
            return true;
        }

        static boolean isBlank(int sign) {
            return sign == ' ' || sign == '\n';
        }

        static boolean isLetter(int sign) {
            return sign >= 'a' && sign <= 'z';
        }

        static boolean isDigit(int sign) {
            return sign >= '0' && sign <= '9';
        }
    }

    /** The tokens of the tape, with BAD or END as the last one. */
    private static final class Tokens {
        private final Tape tape;
        private final int[] kind = new int[MAX_TOKENS + 1];
        private final int[] start = new int[MAX_TOKENS + 1];
        private final int[] size = new int[MAX_TOKENS + 1];
        // What a number tells; the mirror that a name means, once its meaning was looked at.
        private final int[] value = new int[MAX_TOKENS + 1];
        private int count;

        Tokens(Tape tape) {
            this.tape = tape;
        }

        int kindAt(int token) {
            return token >= 0 && token < count ? kind[token] : END;
        }

        int valueAt(int token) {
            return token >= 0 && token < count ? value[token] : 0;
        }

        void setValue(int token, int to) {
            if (token >= 0 && token < count) {
                value[token] = to;
            }
        }

        int positionOf(int token) {
            return token >= 0 && token < count ? start[token] : tape.length;
        }

        boolean areSameNames(int one, int other) {
            if (one < 0 || one >= count || other < 0 || other >= count) {
                return false;
            }
            return size[one] == size[other]
                    && tape.holdsSame(start[one], start[other], size[one]);
        }

        /** Reads up to the end of the tape, or to the first token that can't be one. */
        void readTape() {
            count = 0;
            int position = tape.skipBlanks(0);
            for (int i = 0; i < MAX_TOKENS && position < tape.length; i++) {
                int next = readToken(position);
                if (next <= position) {
                    add(BAD, position, position);
                    return;
                }
                position = tape.skipBlanks(next);
            }
            add(position < tape.length ? BAD : END, position, position);
        }

        /** Adds the token at a position, and tells where it ends; -1 if there can't be one. */
        private int readToken(int position) {
            int first = tape.byteAt(position);
            if (Tape.isLetter(first)) {
                return readWord(position);
            }
            if (Tape.isDigit(first)) {
                return readNumber(position);
            }
            return readSymbol(position, first);
        }

        private int readWord(int position) {
            int end = tape.skipLettersAndDigits(position);
            if (end - position > MAX_WORD) {
                return -1;
            }
            int found = NAME;
            for (int word = MIRROR; word <= MAX && found == NAME; word++) {
                if (tape.holdsText(keyword(word), position, end - position)) {
                    found = word;
                }
            }
            add(found, position, end);
            return end;
        }

        private int readNumber(int position) {
            int end = tape.skipDigits(position);
            if (end - position > MAX_DIGITS) {
                return -1;
            }
            int number = 0;
            for (int i = position; i < end; i++) {
                number = number * 10 + (tape.byteAt(i) - '0');
            }
            add(NUMBER, position, end);
            setValue(count - 1, number);
            return end;
        }

        private int readSymbol(int position, int first) {
            boolean withEqual = tape.byteAt(position + 1) == '=';
            if (withEqual && (first == '<' || first == '>')) {
                add(first == '<' ? AT_MOST : AT_LEAST, position, position + 2);
                return position + 2;
            }
            if ("()[];,+-*/<>=".indexOf((char) first) < 0) {
                return -1;
            }
            add(first, position, position + 1);
            return position + 1;
        }

        private void add(int itsKind, int from, int to) {
            if (count > MAX_TOKENS) {
                return;
            }
            kind[count] = itsKind;
            start[count] = from;
            size[count] = to - from;
            value[count] = 0;
            count++;
        }

        private static String keyword(int word) {
            switch (word) {
                case MIRROR: return "mirror";
                case CLARITY: return "clarity";
                case OFFSET: return "offset";
                case WIDTH: return "width";
                case LIMIT: return "limit";
                case SHAKE: return "shake";
                case BY: return "by";
                case DUST: return "dust";
                case CLEAN: return "clean";
                case ALIGN: return "align";
                case REPLACE: return "replace";
                case WHEN: return "when";
                case MINUTE: return "minute";
                case LIGHT: return "light";
                case JOBS: return "jobs";
                case LOST: return "lost";
                case TILT: return "tilt";
                case BEST: return "best";
                case OF: return "of";
                case SEEN: return "seen";
                case WAITS: return "waits";
                case NOT: return "not";
                case AND: return "and";
                case OR: return "or";
                case MIN: return "min";
                case MAX: return "max";
                default: return "";
            }
        }
    }

    /**
     * Reads the tokens by the grammar, and writes the orders as a plan: each step behind those
     * whose answers it needs. A method answers false as soon as the token at does not fit.
     */
    private static final class Grammar {
        private final Tokens tokens;
        private final Plan draft;
        private int at;

        Grammar(Tokens tokens, Plan draft) {
            this.tokens = tokens;
            this.draft = draft;
        }

        /** The first token with which there is no train any more; -1 if there is none. */
        int firstMisfit() {
            draft.clear();
            at = 0;
            for (int lines = 0; lines < MAX_TOKENS && !isNext(END); lines++) {
                if (!line() || !take(';')) {
                    return at;
                }
            }
            return isNext(END) ? -1 : at;
        }

        private boolean isNext(int kind) {
            return tokens.kindAt(at) == kind;
        }

        private boolean take(int kind) {
            if (tokens.kindAt(at) != kind) {
                return false;
            }
            at++;
            return true;
        }

        private boolean line() {
            if (take(MIRROR)) {
                return mirror();
            }
            if (take(WIDTH) || take(LIMIT)) {
                return take(NUMBER);
            }
            int kind = tokens.kindAt(at);
            int name = at + 1;
            if (!order(kind)) {
                return false;
            }
            if (!take(WHEN)) {
                draft.write(ALWAYS, name);
            } else if (!test(0)) {
                return false;
            }
            draft.write(kind, name);
            return true;
        }

        private boolean mirror() {
            if (!take(NAME) || !take(CLARITY) || !take(NUMBER) || !take(OFFSET)) {
                return false;
            }
            take('-');
            return take(NUMBER);
        }

        private boolean order(int kind) {
            if (!isOrder(kind) || !take(kind) || !take(NAME)) {
                return false;
            }
            return !isOrderBySum(kind) || (take(BY) && sum(0));
        }

        private boolean test(int depth) {
            if (!both(depth)) {
                return false;
            }
            for (int i = 0; i < MAX_TOKENS && take(OR); i++) {
                if (!both(depth)) {
                    return false;
                }
                draft.write(OR, at);
            }
            return true;
        }

        private boolean both(int depth) {
            if (!single(depth)) {
                return false;
            }
            for (int i = 0; i < MAX_TOKENS && take(AND); i++) {
                if (!single(depth)) {
                    return false;
                }
                draft.write(AND, at);
            }
            return true;
        }

        private boolean single(int depth) {
            int kind = tokens.kindAt(at);
            switch (kind) {
                case NOT:
                    if (depth >= MAX_DEPTH || !take(NOT) || !single(depth + 1)) {
                        return false;
                    }
                    draft.write(NOT, at);
                    return true;
                case '[':
                    return depth < MAX_DEPTH && take('[') && test(depth + 1) && take(']');
                case SEEN:
                    draft.write(SEEN, at);
                    return take(SEEN);
                case WAITS:
                    draft.write(WAITS, at + 1);
                    return take(WAITS) && take(NAME);
                default:
                    break;
            }
            if (!sum(depth)) {
                return false;
            }
            int sign = tokens.kindAt(at);
            boolean compares = take('<') || take('>') || take('=') || take(AT_MOST) || take(AT_LEAST);
            if (!compares || !sum(depth)) {
                return false;
            }
            draft.write(sign, at);
            return true;
        }

        private boolean sum(int depth) {
            if (!product(depth)) {
                return false;
            }
            for (int i = 0; i < MAX_TOKENS && (isNext('+') || isNext('-')); i++) {
                int kind = tokens.kindAt(at);
                at++;
                if (!product(depth)) {
                    return false;
                }
                draft.write(kind, at);
            }
            return true;
        }

        private boolean product(int depth) {
            if (!value(depth)) {
                return false;
            }
            for (int i = 0; i < MAX_TOKENS && (isNext('*') || isNext('/')); i++) {
                int kind = tokens.kindAt(at);
                at++;
                if (!value(depth)) {
                    return false;
                }
                draft.write(kind, at);
            }
            return true;
        }

        private boolean value(int depth) {
            int kind = tokens.kindAt(at);
            switch (kind) {
                case NUMBER:
                case MINUTE:
                case LIGHT:
                case JOBS:
                    draft.write(kind, at);
                    return take(kind);
                case OFFSET:
                case CLARITY:
                case BEST:
                case LOST:
                case TILT:
                    draft.write(kind, at + 2);
                    return take(kind) && take(OF) && take(NAME);
                case '-':
                    if (depth >= MAX_DEPTH || !take('-') || !value(depth + 1)) {
                        return false;
                    }
                    draft.write(NEGATE, at);
                    return true;
                case '(':
                    return depth < MAX_DEPTH && take('(') && sum(depth + 1) && take(')');
                case MIN:
                case MAX:
                    return take(kind) && pair(kind, depth);
                default:
                    return false;
            }
        }

        private boolean pair(int kind, int depth) {
            if (depth >= MAX_DEPTH || !take('(') || !sum(depth + 1)) {
                return false;
            }
            if (!take(',') || !sum(depth + 1) || !take(')')) {
                return false;
            }
            draft.write(kind, at);
            return true;
        }
    }

    /** Looks at what the tokens of a train mean, and tells the draft its mirrors. */
    private static final class Meaning {
        private final Tape tape;
        private final Tokens tokens;
        private final Plan draft;
        // The tokens that name the mirrors.
        private final int[] names = new int[MAX_MIRRORS];
        private int error;

        Meaning(Tape tape, Tokens tokens, Plan draft) {
            this.tape = tape;
            this.tokens = tokens;
            this.draft = draft;
        }

        /** The first token with an error 2 to 5, which error is then; -1 if there is none. */
        int firstMistake() {
            for (int token = 0; token < tokens.count; token++) {
                error = errorOf(token);
                if (error != 0) {
                    return token;
                }
            }
            return -1;
        }

        private int errorOf(int token) {
            int kind = tokens.kindAt(token);
            if (kind == NAME) {
                boolean isNew = tokens.kindAt(token - 1) == MIRROR;
                return isNew ? errorOfNewName(token) : errorOfName(token);
            }
            if (kind == NUMBER) {
                return errorOfNumber(token);
            }
            return isOrder(kind) ? errorOfOrder() : 0;
        }

        private int errorOfNewName(int token) {
            if (mirrorNamed(token) != NO_MIRROR) {
                return 2;
            }
            if (draft.mirrors >= MAX_MIRRORS) {
                return 4;
            }
            names[draft.mirrors] = token;
            draft.mirrors++;
            return 0;
        }

        private int errorOfName(int token) {
            int mirror = mirrorNamed(token);
            tokens.setValue(token, mirror);
            return mirror == NO_MIRROR ? 3 : 0;
        }

        private int mirrorNamed(int token) {
            for (int mirror = 0; mirror < draft.mirrors && mirror < MAX_MIRRORS; mirror++) {
                if (tokens.areSameNames(names[mirror], token)) {
                    return mirror;
                }
            }
            return NO_MIRROR;
        }

        private int errorOfOrder() {
            draft.orders++;
            return draft.orders > MAX_ORDERS ? 4 : 0;
        }

        private int errorOfNumber(int token) {
            int number = tokens.valueAt(token);
            int ahead = tokens.kindAt(token - 1);
            // Behind offset, "of" comes in a sum, so a "-" there is the sign of a mirror's offset.
            boolean isNegative = ahead == '-' && tokens.kindAt(token - 2) == OFFSET;
            switch (isNegative ? OFFSET : ahead) {
                case CLARITY:
                    draft.tellClarity(number);
                    return number > MAX_CLARITY ? 5 : 0;
                case OFFSET:
                    draft.tellOffset(isNegative ? -number : number);
                    return number > MAX_OFFSET ? 5 : 0;
                case WIDTH:
                    draft.width = number;
                    return number > MAX_WIDTH ? 5 : 0;
                case LIMIT:
                    draft.limit = number;
                    return number > MAX_LIMIT ? 5 : 0;
                default:
                    return 0;
            }
        }
    }

    /** What a train was told: its mirrors at first, and its orders as one list of steps. */
    private static final class Plan {
        private final int[] clarity = new int[MAX_MIRRORS];
        private final int[] offset = new int[MAX_MIRRORS];
        private final int[] step = new int[MAX_TOKENS];
        // In a draft the token with the value of the step; in a plan that value.
        private final int[] value = new int[MAX_TOKENS];
        private int mirrors;
        private int orders;
        private int width = FIRST_WIDTH;
        private int limit = FIRST_LIMIT;
        private int length;

        void clear() {
            mirrors = 0;
            orders = 0;
            width = FIRST_WIDTH;
            limit = FIRST_LIMIT;
            length = 0;
        }

        /** Appends a step; no token makes more than one, so there is room for all. */
        void write(int kind, int token) {
            if (length < MAX_TOKENS) {
                step[length] = kind;
                value[length] = token;
                length++;
            }
        }

        void tellClarity(int to) {
            if (mirrors > 0 && mirrors <= MAX_MIRRORS) {
                clarity[mirrors - 1] = to;
            }
        }

        void tellOffset(int to) {
            if (mirrors > 0 && mirrors <= MAX_MIRRORS) {
                offset[mirrors - 1] = to;
            }
        }

        void takeOver(Plan draft, Tokens tokens) {
            System.arraycopy(draft.clarity, 0, clarity, 0, MAX_MIRRORS);
            System.arraycopy(draft.offset, 0, offset, 0, MAX_MIRRORS);
            mirrors = draft.mirrors;
            orders = draft.orders;
            width = draft.width;
            limit = draft.limit;
            length = draft.length;
            for (int i = 0; i < length && i < MAX_TOKENS; i++) {
                step[i] = draft.step[i];
                value[i] = tokens.valueAt(draft.value[i]);
            }
        }
    }

    /** The mirrors, their row, and the light that goes along it. */
    private static final class Row {
        private final int[] clarity = new int[MAX_MIRRORS];
        private final int[] best = new int[MAX_MIRRORS];
        private final int[] offset = new int[MAX_MIRRORS];
        private final int[] mirrorAtPlace = new int[MAX_MIRRORS];
        private final int[] light = new int[MAX_MIRRORS];
        private final int[] lost = new int[MAX_MIRRORS];
        private final int[] tilt = new int[MAX_MIRRORS];
        private int count;
        private int width = FIRST_WIDTH;
        private int limit = FIRST_LIMIT;
        private int covered = NO_MIRROR;
        private int endLight;
        private int endTilt;
        // Whether light, lost and tilt are those of the row as it is now.
        private boolean isLit;

        void begin(Plan plan) {
            count = Math.min(plan.mirrors, MAX_MIRRORS);
            width = plan.width;
            limit = plan.limit;
            covered = NO_MIRROR;
            isLit = false;
            for (int i = 0; i < count; i++) {
                clarity[i] = plan.clarity[i];
                best[i] = MAX_CLARITY;
                offset[i] = plan.offset[i];
                mirrorAtPlace[i] = i;
            }
        }

        void copy(Row other) {
            System.arraycopy(other.clarity, 0, clarity, 0, MAX_MIRRORS);
            System.arraycopy(other.best, 0, best, 0, MAX_MIRRORS);
            System.arraycopy(other.offset, 0, offset, 0, MAX_MIRRORS);
            System.arraycopy(other.mirrorAtPlace, 0, mirrorAtPlace, 0, MAX_MIRRORS);
            count = other.count;
            width = other.width;
            limit = other.limit;
            covered = other.covered;
            isLit = false;
        }

        private boolean has(int mirror) {
            return mirror >= 0 && mirror < count;
        }

        int mirrorIn(int place) {
            return place >= 0 && place < count ? mirrorAtPlace[place] : NO_MIRROR;
        }

        int findPlace(int mirror) {
            for (int place = 0; place < count; place++) {
                if (mirrorAtPlace[place] == mirror) {
                    return place;
                }
            }
            return -1;
        }

        /** What the words of a sum, or light for that behind it, tell of a mirror. */
        int valueOf(int word, int mirror) {
            if (!has(mirror)) {
                return 0;
            }
            shine();
            switch (word) {
                case CLARITY: return clarity[mirror];
                case BEST: return best[mirror];
                case OFFSET: return offset[mirror];
                case LIGHT: return light[mirror];
                case LOST: return lost[mirror];
                case TILT: return tilt[mirror];
                default: return 0;
            }
        }

        int lastLight() {
            shine();
            return endLight;
        }

        int lastTilt() {
            shine();
            return endTilt;
        }

        boolean showsLight() {
            shine();
            return endLight >= limit && isWithinWidth(endTilt);
        }

        int mostLosing() {
            shine();
            int found = mirrorIn(0);
            for (int place = 1; place < count; place++) {
                int mirror = mirrorIn(place);
                if (has(mirror) && has(found) && lost[mirror] > lost[found]) {
                    found = mirror;
                }
            }
            return found;
        }

        private boolean isWithinWidth(int angle) {
            return angle <= width && angle >= -width;
        }

        private void shine() {
            if (isLit) {
                return;
            }
            int coming = FULL_LIGHT;
            int angle = 0;
            for (int place = 0; place < count; place++) {
                int mirror = mirrorIn(place);
                if (has(mirror)) {
                    boolean isDark = mirror == covered || !isWithinWidth(angle);
                    light[mirror] = isDark ? 0 : coming * clarity[mirror] / 100;
                    lost[mirror] = coming - light[mirror];
                    tilt[mirror] = angle + 2 * offset[mirror];
                    coming = light[mirror];
                    angle = tilt[mirror];
                }
            }
            endLight = coming;
            endTilt = angle;
            isLit = true;
        }

        void cover(int mirror) {
            covered = mirror;
            isLit = false;
        }

        void turn(int mirror, int to) {
            if (has(mirror)) {
                offset[mirror] = to;
                isLit = false;
            }
        }

        void shake(int mirror, int by) {
            if (has(mirror)) {
                turn(mirror, hold((long) offset[mirror] + by, -MAX_OFFSET, MAX_OFFSET));
            }
        }

        /** Lowers the clarity, held at 0 and at most. */
        void dim(int mirror, int by, int most) {
            if (has(mirror)) {
                clarity[mirror] = hold((long) clarity[mirror] - by, 0, most);
                isLit = false;
            }
        }

        void dust(int mirror, int by) {
            if (has(mirror)) {
                dim(mirror, by, best[mirror]);
            }
        }

        void clean(int mirror) {
            if (has(mirror)) {
                clarity[mirror] = Math.max(clarity[mirror], best[mirror]);
                best[mirror] = Math.max(0, best[mirror] - 1);
                isLit = false;
            }
        }

        void replace(int mirror) {
            if (has(mirror)) {
                clarity[mirror] = MAX_CLARITY;
                best[mirror] = MAX_CLARITY;
                turn(mirror, 0);
            }
        }

        void move(int mirror, int to) {
            int from = findPlace(mirror);
            if (from < 0 || to < 0 || to >= count) {
                return;
            }
            for (int place = from; place < to; place++) {
                mirrorAtPlace[place] = mirrorAtPlace[place + 1];
            }
            for (int place = from; place > to; place--) {
                mirrorAtPlace[place] = mirrorAtPlace[place - 1];
            }
            mirrorAtPlace[to] = mirror;
            isLit = false;
        }
    }

    /** The jobs that wait, and that at the place 0, at which the crew may be at work. */
    private static final class Queue {
        private final int[] kind = new int[MAX_JOBS];
        private final int[] mirror = new int[MAX_JOBS];
        private int size;
        // More than 0 just while the job at the place 0 began and is not done.
        private int toGo;
        private int done;

        void begin() {
            size = 0;
            toGo = 0;
            done = 0;
        }

        void copy(Queue other) {
            System.arraycopy(other.kind, 0, kind, 0, MAX_JOBS);
            System.arraycopy(other.mirror, 0, mirror, 0, MAX_JOBS);
            size = other.size;
            toGo = other.toGo;
            done = other.done;
        }

        int kindIn(int place) {
            return place >= 0 && place < size ? kind[place] : -1;
        }

        int mirrorIn(int place) {
            return place >= 0 && place < size ? mirror[place] : NO_MIRROR;
        }

        boolean hasJobFor(int itsMirror) {
            for (int place = 0; place < size; place++) {
                if (mirror[place] == itsMirror) {
                    return true;
                }
            }
            return false;
        }

        boolean takesIn(int itsKind, int itsMirror) {
            for (int place = 0; place < size; place++) {
                if (kind[place] == itsKind && mirror[place] == itsMirror) {
                    return false;
                }
            }
            return size < MAX_JOBS;
        }

        void add(int itsKind, int itsMirror) {
            if (takesIn(itsKind, itsMirror)) {
                kind[size] = itsKind;
                mirror[size] = itsMirror;
                size++;
            }
        }

        void remove(int place) {
            if (place < 0 || place >= size) {
                return;
            }
            size--;
            for (int i = place; i < size; i++) {
                kind[i] = kind[i + 1];
                mirror[i] = mirror[i + 1];
            }
            if (place == 0) {
                toGo = 0;
            }
        }
    }

    /** All that changes as minutes go by: as it is, or as it would be. */
    private static final class World {
        private final Plan plan;
        private final Row row = new Row();
        private final Queue queue = new Queue();
        // The answers that later steps of the plan still need.
        private final int[] answers = new int[MAX_TOKENS];
        private int answered;
        private int minute;

        World(Plan plan) {
            this.plan = plan;
        }

        void begin() {
            row.begin(plan);
            queue.begin();
            minute = 0;
        }

        void copy(World other) {
            row.copy(other.row);
            queue.copy(other.queue);
            minute = other.minute;
        }

        void pass(int minutes) {
            for (int i = 0; i < minutes; i++) {
                answered = 0;
                for (int step = 0; step < plan.length && step < MAX_TOKENS; step++) {
                    follow(plan.step[step], plan.value[step]);
                }
                work();
                minute++;
            }
        }

        void dropJob(int place) {
            queue.remove(place);
            if (place == 0) {
                row.cover(NO_MIRROR);
            }
        }

        private void follow(int step, int value) {
            if (isOrder(step)) {
                carryOut(step, value);
            } else if (step == NEGATE) {
                push(-pop());
            } else if (step == NOT) {
                push(1 - pop());
            } else if (joinsTwo(step)) {
                int right = pop();
                push(join(step, pop(), right));
            } else {
                push(valueOf(step, value));
            }
        }

        private void push(int answer) {
            if (answered < MAX_TOKENS) {
                answers[answered] = answer;
                answered++;
            }
        }

        private int pop() {
            if (answered <= 0) {
                return 0;
            }
            answered--;
            return answers[answered];
        }

        private void carryOut(int order, int mirror) {
            boolean holds = pop() != 0;
            int sum = isOrderBySum(order) ? pop() : 0;
            if (!holds) {
                return;
            }
            switch (order) {
                case SHAKE:
                    row.shake(mirror, sum);
                    break;
                case DUST:
                    row.dust(mirror, sum);
                    break;
                case CLEAN:
                    queue.add(JOB_CLEAN, mirror);
                    break;
                case ALIGN:
                    queue.add(JOB_ALIGN, mirror);
                    break;
                default:
                    queue.add(JOB_REPLACE, mirror);
                    break;
            }
        }

        /** A number, or 1 or 0 for what holds or not. */
        private int valueOf(int step, int value) {
            switch (step) {
                case NUMBER: return value;
                case ALWAYS: return 1;
                case MINUTE: return minute;
                case LIGHT: return row.lastLight();
                case JOBS: return queue.size;
                case SEEN: return row.showsLight() ? 1 : 0;
                case WAITS: return queue.hasJobFor(value) ? 1 : 0;
                default: return row.valueOf(step, value);
            }
        }

        private static boolean joinsTwo(int step) {
            switch (step) {
                case '+':
                case '-':
                case '*':
                case '/':
                case '<':
                case '>':
                case '=':
                case AT_MOST:
                case AT_LEAST:
                case AND:
                case OR:
                case MIN:
                case MAX:
                    return true;
                default:
                    return false;
            }
        }

        private static int join(int step, int left, int right) {
            switch (step) {
                case '+': return left + right;
                case '-': return left - right;
                case '*': return left * right;
                case '/': return right == 0 ? 0 : left / right;
                case '<': return left < right ? 1 : 0;
                case '>': return left > right ? 1 : 0;
                case '=': return left == right ? 1 : 0;
                case AT_MOST: return left <= right ? 1 : 0;
                case AT_LEAST: return left >= right ? 1 : 0;
                case AND: return left & right;
                case OR: return left | right;
                case MIN: return Math.min(left, right);
                default: return Math.max(left, right);
            }
        }

        /** A minute of the crew: at the job at the place 0, if there is one. */
        private void work() {
            if (queue.size == 0) {
                return;
            }
            int kind = queue.kindIn(0);
            int mirror = queue.mirrorIn(0);
            if (queue.toGo == 0) {
                queue.toGo = minutesFor(kind, mirror);
                row.cover(mirror);
            }
            queue.toGo--;
            if (queue.toGo == 0) {
                dropJob(0);
                queue.done++;
                finish(kind, mirror);
            }
        }

        private int minutesFor(int kind, int mirror) {
            switch (kind) {
                case JOB_CLEAN: return (MAX_CLARITY - row.valueOf(CLARITY, mirror)) / 10 + 1;
                case JOB_ALIGN: return Math.abs(row.valueOf(OFFSET, mirror)) / 5 + 1;
                default: return MINUTES_TO_REPLACE;
            }
        }

        private void finish(int kind, int mirror) {
            switch (kind) {
                case JOB_CLEAN:
                    row.clean(mirror);
                    break;
                case JOB_ALIGN:
                    row.turn(mirror, 0);
                    break;
                default:
                    row.replace(mirror);
                    break;
            }
        }
    }
}
