/**
 * Lazy rain on terraces: what comes to many terraces waits at branches over them, and is pushed
 * down only as far as looking or raining below needs it.
 */
public final class TerraceRain {
    private static final int MOST_BYTES = 2000;
    private static final int MOST_TOKENS = 400;
    private static final int MOST_DEPTH = 8;
    private static final int MOST_ORDERS = 16;
    private static final int FIRST_TERRACES = 16;
    private static final int LEAST_TERRACES = 2;
    private static final int MOST_TERRACES = 32;
    /** Branches have the numbers from 1 to 63: five steps below the branch 1 each is over one terrace. */
    private static final int BRANCH_NUMBERS = 64;
    private static final int STEPS_DOWN = 6;
    private static final int MOST_DAYS = 30;
    private static final int MOST_AMOUNT = 999;

    // A token, and likewise a step of a plan, is one number: 0 or greater is a number of the tape,
    // less than 0 is one of these. Those from DAY to WAITING, and those from LESS to
    // GREATER_OR_EQUAL, are asked for as ranges.
    private static final int END = -1;
    private static final int BAD = -2;
    private static final int TERRACES = -3;
    private static final int FROM = -4;
    private static final int TO = -5;
    private static final int WHEN = -6;
    private static final int OPENING = -7;
    private static final int CLOSING = -8;
    private static final int TEST_OPENING = -9;
    private static final int TEST_CLOSING = -10;
    private static final int SEMICOLON = -11;
    private static final int COMMA = -12;
    private static final int RAIN = -13;
    private static final int LEVEL = -14;
    private static final int LOOK = -15;
    private static final int DAY = -16;
    private static final int PUSHES = -17;
    private static final int WATER = -18;
    private static final int HIGHEST = -19;
    private static final int LOWEST = -20;
    private static final int WAITING = -21;
    private static final int HEIGHT = -22;
    private static final int NOT = -23;
    private static final int NEGATIVE = -24;
    private static final int AND = -25;
    private static final int OR = -26;
    private static final int MIN = -27;
    private static final int MAX = -28;
    private static final int PLUS = -29;
    private static final int MINUS = -30;
    private static final int TIMES = -31;
    private static final int DIVIDED = -32;
    private static final int LESS = -33;
    private static final int GREATER = -34;
    private static final int EQUAL = -35;
    private static final int LESS_OR_EQUAL = -36;
    private static final int GREATER_OR_EQUAL = -37;

    private final Tape tape = new Tape();
    private final Tokens tokens = new Tokens();
    private final Plan plan = new Plan();
    /** A valley is read into the draft, so that all stays if it has an error. */
    private final Plan draft = new Plan();
    private final Grammar grammar = new Grammar(tokens, draft);
    private final Worker worker = new Worker();
    private final Valley now = new Valley();
    /** Looking ahead happens here, so that nothing is changed. */
    private final Valley ahead = new Valley();
    private int placeOfError = -1;

    public TerraceRain() {
        now.begin(FIRST_TERRACES);
        ahead.begin(FIRST_TERRACES);
    }

    // ---- the language

    public int feed(int a, int b, int c, int d, int e) throws IllegalStateException {
        if (tape.size() + 20 > MOST_BYTES) {
            throw new IllegalStateException("the tape would be too long");
        }
        tape.append(a);
        tape.append(b);
        tape.append(c);
        tape.append(d);
        tape.append(e);
        return tape.size();
    }

    public int trim(int n) throws IllegalArgumentException {
        if (n < 0 || n > tape.size()) {
            throw new IllegalArgumentException("the tape has not so many bytes");
        }
        tape.shorten(n);
        return n;
    }

    public int teach() {
        tokens.read(tape);
        tape.shorten(0);
        boolean isValley = grammar.read();
        int error = isValley ? draft.error() : 1;
        if (error != 0) {
            placeOfError = isValley ? draft.placeOfError() : tokens.place();
            return error;
        }
        plan.copy(draft);
        now.begin(plan.terraceCount);
        ahead.begin(plan.terraceCount);
        placeOfError = -1;
        return 0;
    }

    public int errorAt() {
        return placeOfError;
    }

    // ---- the valley

    public int terraces() {
        return now.terraceCount;
    }

    public int branches() {
        return now.countBranches();
    }

    public int orders() {
        return plan.orderCount;
    }

    public int days() {
        return now.dayCount;
    }

    public int pushes() {
        return now.pushCount;
    }

    public int waitingBranches() {
        return now.countWaiting();
    }

    // ---- branches (nothing is opened)

    public int firstOf(int branch) throws IndexOutOfBoundsException {
        return existing(branch).first;
    }

    public int lastOf(int branch) throws IndexOutOfBoundsException {
        return existing(branch).last;
    }

    public long waterToldBy(int branch) throws IndexOutOfBoundsException {
        return existing(branch).water;
    }

    public int highestToldBy(int branch) throws IndexOutOfBoundsException {
        return existing(branch).highest;
    }

    public int lowestToldBy(int branch) throws IndexOutOfBoundsException {
        return existing(branch).lowest;
    }

    public int rainWaitingAt(int branch) throws IndexOutOfBoundsException {
        return existing(branch).rain;
    }

    public boolean hasLevelWaiting(int branch) throws IndexOutOfBoundsException {
        return existing(branch).hasLevel;
    }

    public int levelWaitingAt(int branch) throws IndexOutOfBoundsException, IllegalStateException {
        Branch waiting = existing(branch);
        if (!waiting.hasLevel) {
            throw new IllegalStateException("no level waits there");
        }
        return waiting.level;
    }

    // ---- terraces (nothing is opened)

    public int heightOf(int terrace) throws IndexOutOfBoundsException {
        requireTerraces(terrace, terrace);
        return now.height(terrace);
    }

    public int waitingOver(int terrace) throws IndexOutOfBoundsException {
        requireTerraces(terrace, terrace);
        return now.countWaitingOver(terrace);
    }

    public int pushesToLook(int from, int to) throws IndexOutOfBoundsException {
        requireTerraces(from, to);
        ahead.copy(now);
        ahead.goDown(from, to, LOOK, 0);
        return ahead.pushCount - now.pushCount;
    }

    // ---- looking

    public long lookForWater(int from, int to) throws IndexOutOfBoundsException {
        requireTerraces(from, to);
        now.goDown(from, to, LOOK, 0);
        return now.seenWater;
    }

    public int lookForHighest(int from, int to) throws IndexOutOfBoundsException {
        requireTerraces(from, to);
        now.goDown(from, to, LOOK, 0);
        return now.seenHighest;
    }

    public int lookForLowest(int from, int to) throws IndexOutOfBoundsException {
        requireTerraces(from, to);
        now.goDown(from, to, LOOK, 0);
        return now.seenLowest;
    }

    public int lookForFirst(int height) {
        return now.findFirst(height);
    }

    public int openAll() {
        int before = now.pushCount;
        now.openEach();
        return now.pushCount - before;
    }

    // ---- by hand

    public int rain(int from, int to, int amount) throws IndexOutOfBoundsException, IllegalArgumentException {
        requireTerraces(from, to);
        requireWithin(amount, -MOST_AMOUNT, MOST_AMOUNT);
        now.goDown(from, to, RAIN, amount);
        return now.reachedCount;
    }

    public long bringTo(int from, int to, int level) throws IndexOutOfBoundsException, IllegalArgumentException {
        requireTerraces(from, to);
        requireWithin(level, -MOST_AMOUNT, MOST_AMOUNT);
        long before = now.root.water;
        now.goDown(from, to, LEVEL, level);
        return now.root.water - before;
    }

    // ---- days and what would be

    public int passDays(int days) throws IllegalArgumentException {
        requireWithin(days, 1, MOST_DAYS);
        int before = now.pushCount;
        worker.work(plan, now, days);
        return now.pushCount - before;
    }

    public long waterAfter(int days) throws IllegalArgumentException {
        requireWithin(days, 1, MOST_DAYS);
        ahead.copy(now);
        worker.work(plan, ahead, days);
        return ahead.root.water;
    }

    public int waitingAfter(int days) throws IllegalArgumentException {
        requireWithin(days, 1, MOST_DAYS);
        ahead.copy(now);
        worker.work(plan, ahead, days);
        return ahead.countWaiting();
    }

    public int daysUntil(int terrace, int height) throws IndexOutOfBoundsException {
        requireTerraces(terrace, terrace);
        ahead.copy(now);
        for (int day = 0; day < MOST_DAYS && ahead.height(terrace) < height; day++) {
            worker.work(plan, ahead, 1);
        }
        return ahead.height(terrace) >= height ? ahead.dayCount - now.dayCount : -1;
    }

    public int bestShower(int terraces, int amount) throws IllegalArgumentException {
        requireWithin(terraces, 1, now.terraceCount);
        requireWithin(amount, 0, MOST_AMOUNT);
        int best = 0;
        int greatestLowest = lowestBehindShower(0, terraces, amount);
        for (int first = 1; first + terraces <= now.terraceCount; first++) {
            int lowest = lowestBehindShower(first, terraces, amount);
            if (lowest > greatestLowest) {
                greatestLowest = lowest;
                best = first;
            }
        }
        return best;
    }

    public double meanHeight() {
        int count = now.terraceCount;
        return count == 0 ? 0.0 : (double) now.root.water / count;
    }

    public long digest() {
        long d = 977;
        d = d * 31 + terraces();
        d = d * 31 + branches();
        d = d * 31 + orders();
        d = d * 31 + days();
        d = d * 31 + pushes();
        d = d * 31 + waitingBranches();
        for (int number = 1; number < BRANCH_NUMBERS; number++) {
            Branch branch = now.find(number);
            if (branch != null) {
                d = branch.addToDigest(d);
            }
        }
        for (int terrace = 0; terrace < now.terraceCount; terrace++) {
            d = d * 31 + now.height(terrace);
        }
        return d;
    }

    // ---- what the calls have in common

    private Branch existing(int number) throws IndexOutOfBoundsException {
        Branch branch = now.find(number);
        if (branch == null) {
            throw new IndexOutOfBoundsException("there is no such branch");
        }
        return branch;
    }

    private void requireTerraces(int from, int to) throws IndexOutOfBoundsException {
        if (from < 0 || from > to || to >= now.terraceCount) {
            throw new IndexOutOfBoundsException("there are no such terraces");
        }
    }

    private static void requireWithin(int x, int least, int greatest) throws IllegalArgumentException {
        if (x < least || x > greatest) {
            throw new IllegalArgumentException("too small or too great");
        }
    }

    private int lowestBehindShower(int first, int howMany, int amount) {
        ahead.copy(now);
        ahead.goDown(first, first + howMany - 1, RAIN, amount);
        return ahead.root.lowest;
    }

    /** The row of bytes that a valley is read from. */
    private static final class Tape {
        private final byte[] bytes = new byte[MOST_BYTES];
        private int length;

        int size() {
            return length;
        }

        void append(int fourBytes) {
            for (int shift = 24; shift >= 0; shift -= 8) {
                if (length >= 0 && length < bytes.length) {
                    bytes[length] = (byte) (fourBytes >> shift);
                    length++;
                }
            }
        }

        void shorten(int toLength) {
            if (toLength >= 0 && toLength <= length) {
                length = toLength;
            }
        }

        /** The byte there, 0 to 255, or -1 outside of the tape. */
        int get(int position) {
            if (position < 0 || position >= length || position >= bytes.length) {
                return -1;
            }
            return bytes[position] & 255;
        }

        boolean hasBlank(int position) {
            int sign = get(position);
            return sign == ' ' || sign == '\n';
        }

        boolean hasLetter(int position) {
            int sign = get(position);
            return sign >= 'a' && sign <= 'z';
        }

        boolean hasDigit(int position) {
            int sign = get(position);
            return sign >= '0' && sign <= '9';
        }

        boolean spells(String text, int from, int to) {
            if (text.length() != to - from) {
                return false;
            }
            for (int i = 0; i < text.length(); i++) {
                if (get(from + i) != text.charAt(i)) {
                    return false;
                }
            }
            return true;
        }
    }

    /** The keywords of the language. */
    private enum Keyword {
        TERRACES_WORD("terraces", TERRACES),
        RAIN_WORD("rain", RAIN),
        LEVEL_WORD("level", LEVEL),
        LOOK_WORD("look", LOOK),
        FROM_WORD("from", FROM),
        TO_WORD("to", TO),
        WHEN_WORD("when", WHEN),
        DAY_WORD("day", DAY),
        PUSHES_WORD("pushes", PUSHES),
        WATER_WORD("water", WATER),
        HIGHEST_WORD("highest", HIGHEST),
        LOWEST_WORD("lowest", LOWEST),
        WAITING_WORD("waiting", WAITING),
        HEIGHT_WORD("height", HEIGHT),
        NOT_WORD("not", NOT),
        AND_WORD("and", AND),
        OR_WORD("or", OR),
        MIN_WORD("min", MIN),
        MAX_WORD("max", MAX);

        private final String text;
        private final int token;

        Keyword(String text, int token) {
            this.text = text;
            this.token = token;
        }
    }

    /** The tokens of a tape, up to its end or to the first wrong one, and the one at which reading stands. */
    private static final class Tokens {
        private static final Keyword[] KEYWORDS = Keyword.values();
        private static final int MOST_DIGITS = 6;
        private static final int MOST_LETTERS = 10;

        private final int[] tokens = new int[MOST_TOKENS + 1];
        private final int[] places = new int[MOST_TOKENS + 1];
        private int count;
        private int current;
        /** The position behind the token that was found last. */
        private int behind;

        void read(Tape tape) {
            count = 0;
            current = 0;
            behind = 0;
            for (int i = 0; i < tokens.length && i < places.length; i++) {
                int place = behindBlanks(tape, behind);
                int token = readToken(tape, place);
                boolean oneTooMany = i == MOST_TOKENS && token != END;
                tokens[i] = oneTooMany ? BAD : token;
                places[i] = place;
                count = i + 1;
                if (token == END || token == BAD) {
                    return;
                }
            }
        }

        int current() {
            return current >= 0 && current < count && current < tokens.length ? tokens[current] : BAD;
        }

        int place() {
            return current >= 0 && current < count && current < places.length ? places[current] : 0;
        }

        void goOn() {
            current++;
        }

        boolean take(int token) {
            if (current() != token) {
                return false;
            }
            current++;
            return true;
        }

        private static int behindBlanks(Tape tape, int from) {
            int position = from;
            while (position < tape.size() && tape.hasBlank(position)) {
                position++;
            }
            return position;
        }

        private int readToken(Tape tape, int place) {
            if (tape.get(place) < 0) {
                return END;
            }
            if (tape.hasLetter(place)) {
                return readWord(tape, place);
            }
            if (tape.hasDigit(place)) {
                return readNumber(tape, place);
            }
            return readSymbol(tape, place);
        }

        private int readWord(Tape tape, int place) {
            behind = place;
            while (behind < tape.size() && (tape.hasLetter(behind) || tape.hasDigit(behind))) {
                behind++;
            }
            if (behind - place > MOST_LETTERS) {
                return BAD;
            }
            for (Keyword keyword : KEYWORDS) {
                if (keyword != null && tape.spells(keyword.text, place, behind)) {
                    return keyword.token;
                }
            }
            // The grammar has no place for a name.
            return BAD;
        }

        private int readNumber(Tape tape, int place) {
            int value = 0;
            behind = place;
            while (behind < tape.size() && tape.hasDigit(behind)) {
                value = value * 10 + tape.get(behind) - '0';
                behind++;
            }
            return behind - place > MOST_DIGITS ? BAD : value;
        }

        private int readSymbol(Tape tape, int place) {
            boolean withEqual = tape.get(place + 1) == '=';
            behind = place + 1;
            switch (tape.get(place)) {
                case '(':
                    return OPENING;
                case ')':
                    return CLOSING;
                case '[':
                    return TEST_OPENING;
                case ']':
                    return TEST_CLOSING;
                case ';':
                    return SEMICOLON;
                case ',':
                    return COMMA;
                case '+':
                    return PLUS;
                case '-':
                    return MINUS;
                case '*':
                    return TIMES;
                case '/':
                    return DIVIDED;
                case '=':
                    return EQUAL;
                case '<':
                    behind = withEqual ? place + 2 : place + 1;
                    return withEqual ? LESS_OR_EQUAL : LESS;
                case '>':
                    behind = withEqual ? place + 2 : place + 1;
                    return withEqual ? GREATER_OR_EQUAL : GREATER;
                default:
                    return BAD;
            }
        }
    }

    /**
     * What a valley tells, with all of its orders as one row of steps. A number or a reading is
     * laid on a pile, a sign takes its values from it and lays its answer there, and an order takes
     * its amount, its two terraces and its test.
     */
    private static final class Plan {
        private final int[] steps = new int[MOST_TOKENS];
        private int stepCount;
        private int orderCount;
        private int placeOfSurplusOrder;
        private int terraceCount;
        private int placeOfTerraceCount;

        Plan() {
            clear();
        }

        void clear() {
            stepCount = 0;
            orderCount = 0;
            placeOfSurplusOrder = -1;
            terraceCount = FIRST_TERRACES;
            placeOfTerraceCount = 0;
        }

        void copy(Plan other) {
            stepCount = other.stepCount;
            orderCount = other.orderCount;
            placeOfSurplusOrder = other.placeOfSurplusOrder;
            terraceCount = other.terraceCount;
            placeOfTerraceCount = other.placeOfTerraceCount;
            for (int i = 0; i < stepCount && i < steps.length; i++) {
                steps[i] = other.step(i);
            }
        }

        void setTerraceCount(int count, int place) {
            terraceCount = count;
            placeOfTerraceCount = place;
        }

        void addOrder(int place) {
            if (orderCount < MOST_ORDERS) {
                orderCount++;
            } else if (placeOfSurplusOrder < 0) {
                placeOfSurplusOrder = place;
            }
        }

        /** There are no more steps than tokens: see Grammar.readLine. */
        void addStep(int step) {
            if (stepCount >= 0 && stepCount < steps.length) {
                steps[stepCount] = step;
                stepCount++;
            }
        }

        int step(int index) {
            return index >= 0 && index < stepCount && index < steps.length ? steps[index] : 0;
        }

        private boolean hasWrongTerraceCount() {
            return terraceCount < LEAST_TERRACES || terraceCount > MOST_TERRACES;
        }

        /** The number of terraces stands in front of all orders, so that its error is the first one. */
        int error() {
            if (hasWrongTerraceCount()) {
                return 5;
            }
            return placeOfSurplusOrder >= 0 ? 4 : 0;
        }

        int placeOfError() {
            return hasWrongTerraceCount() ? placeOfTerraceCount : placeOfSurplusOrder;
        }
    }

    /**
     * Reads tokens by the grammar of the language. Each reading method answers whether it could
     * read its part; if not, the token at which it stands is the first wrong one.
     */
    private static final class Grammar {
        private static final int TEST = 0;
        private static final int BOTH = 1;
        private static final int SUM = 2;
        private static final int PRODUCT = 3;

        private final Tokens tokens;
        private final Plan plan;

        Grammar(Tokens tokens, Plan plan) {
            this.tokens = tokens;
            this.plan = plan;
        }

        boolean read() {
            plan.clear();
            if (tokens.take(TERRACES) && !readTerraceCount()) {
                return false;
            }
            for (int line = 0; line < MOST_TOKENS && isOrder(tokens.current()); line++) {
                if (!readLine()) {
                    return false;
                }
            }
            return tokens.current() == END;
        }

        private boolean readTerraceCount() {
            if (tokens.current() < 0) {
                return false;
            }
            plan.setTerraceCount(tokens.current(), tokens.place());
            tokens.goOn();
            return tokens.take(SEMICOLON);
        }

        /**
         * A look gets an amount and a line without a test gets one that holds, so that all orders
         * take the same from the pile. The words from and to and the semicolon bring no step, so
         * that there are no more steps than tokens.
         */
        private boolean readLine() {
            int order = tokens.current();
            plan.addOrder(tokens.place());
            tokens.goOn();
            if (order == LOOK) {
                plan.addStep(0);
            } else if (!readChain(SUM, 0)) {
                return false;
            }
            if (!tokens.take(FROM) || !readChain(SUM, 0) || !tokens.take(TO) || !readChain(SUM, 0)) {
                return false;
            }
            if (!tokens.take(WHEN)) {
                plan.addStep(1);
            } else if (!readChain(TEST, 0)) {
                return false;
            }
            plan.addStep(order);
            return tokens.take(SEMICOLON);
        }

        private boolean readChain(int kind, int depth) {
            if (!readPart(kind, depth)) {
                return false;
            }
            for (int i = 0; i < MOST_TOKENS && joins(kind, tokens.current()); i++) {
                int sign = tokens.current();
                tokens.goOn();
                if (!readPart(kind, depth)) {
                    return false;
                }
                plan.addStep(sign);
            }
            return true;
        }

        private boolean readPart(int kind, int depth) {
            switch (kind) {
                case TEST:
                    return readChain(BOTH, depth);
                case BOTH:
                    return readSingle(depth);
                case SUM:
                    return readChain(PRODUCT, depth);
                default:
                    return readValue(depth);
            }
        }

        private boolean readSingle(int depth) {
            if (tokens.current() == NOT) {
                return goDeeper(depth) && readSingle(depth + 1) && addStep(NOT);
            }
            if (tokens.current() == TEST_OPENING) {
                return goDeeper(depth) && readChain(TEST, depth + 1) && tokens.take(TEST_CLOSING);
            }
            if (!readChain(SUM, depth) || !isComparison(tokens.current())) {
                return false;
            }
            int sign = tokens.current();
            tokens.goOn();
            return readChain(SUM, depth) && addStep(sign);
        }

        private boolean readValue(int depth) {
            int token = tokens.current();
            if (token >= 0 || isReading(token)) {
                tokens.goOn();
                return addStep(token);
            }
            switch (token) {
                case MINUS:
                    return goDeeper(depth) && readValue(depth + 1) && addStep(NEGATIVE);
                case OPENING:
                    return readBracketed(1, depth);
                case HEIGHT:
                    tokens.goOn();
                    return readBracketed(1, depth) && addStep(token);
                case MIN:
                case MAX:
                    tokens.goOn();
                    return readBracketed(2, depth) && addStep(token);
                default:
                    return false;
            }
        }

        private boolean readBracketed(int sums, int depth) {
            if (tokens.current() != OPENING || !goDeeper(depth) || !readChain(SUM, depth + 1)) {
                return false;
            }
            if (sums == 2 && (!tokens.take(COMMA) || !readChain(SUM, depth + 1))) {
                return false;
            }
            return tokens.take(CLOSING);
        }

        /** Takes a token behind which the depth is greater, if it may be. */
        private boolean goDeeper(int depth) {
            if (depth >= MOST_DEPTH) {
                return false;
            }
            tokens.goOn();
            return true;
        }

        private boolean addStep(int step) {
            plan.addStep(step);
            return true;
        }

        private static boolean joins(int kind, int token) {
            switch (kind) {
                case TEST:
                    return token == OR;
                case BOTH:
                    return token == AND;
                case SUM:
                    return token == PLUS || token == MINUS;
                default:
                    return token == TIMES || token == DIVIDED;
            }
        }

        private static boolean isOrder(int token) {
            return token == RAIN || token == LEVEL || token == LOOK;
        }

        private static boolean isComparison(int token) {
            return token <= LESS && token >= GREATER_OR_EQUAL;
        }

        private static boolean isReading(int token) {
            return token <= DAY && token >= WAITING;
        }
    }

    /** One branch: what it tells, and what waits there. */
    private static final class Branch {
        private final int number;
        private int first;
        private int last;
        private long water;
        private int highest;
        private int lowest;
        private int rain;
        private boolean hasLevel;
        private int level;
        /** The two branches under it, or null at a branch over a single terrace. */
        private Branch left;
        private Branch right;

        Branch(int number) {
            this.number = number;
            setAside();
        }

        /** It is over no terraces: there is no such branch. */
        void setAside() {
            lieOver(0, -1);
        }

        void lieOver(int from, int to) {
            first = from;
            last = to;
            water = 0;
            highest = 0;
            lowest = 0;
            rain = 0;
            hasLevel = false;
            level = 0;
            left = null;
            right = null;
        }

        void copy(Branch other) {
            water = other.water;
            highest = other.highest;
            lowest = other.lowest;
            rain = other.rain;
            hasLevel = other.hasLevel;
            level = other.level;
        }

        boolean exists() {
            return last >= first;
        }

        boolean waits() {
            return hasLevel || rain != 0;
        }

        boolean isAmong(int from, int to) {
            return first >= from && last <= to;
        }

        boolean touches(int from, int to) {
            return first <= to && last >= from;
        }

        void takeLevel(int newLevel) {
            water = (long) newLevel * (last - first + 1);
            highest = newLevel;
            lowest = newLevel;
            if (last > first) {
                hasLevel = true;
                level = newLevel;
                rain = 0;
            }
        }

        void takeRain(int amount) {
            water += (long) amount * (last - first + 1);
            highest += amount;
            lowest += amount;
            if (last > first) {
                rain += amount;
            }
        }

        /** Answers how many pushes it was: 1, or 0 if nothing waited. */
        int open() {
            if (left == null || right == null || !waits()) {
                return 0;
            }
            if (hasLevel) {
                left.takeLevel(level);
                right.takeLevel(level);
            }
            left.takeRain(rain);
            right.takeRain(rain);
            hasLevel = false;
            level = 0;
            rain = 0;
            return 1;
        }

        void tellAnew() {
            if (left == null || right == null) {
                return;
            }
            water = left.water + right.water;
            highest = Math.max(left.highest, right.highest);
            lowest = Math.min(left.lowest, right.lowest);
        }

        long addToDigest(long digestBefore) {
            long d = digestBefore;
            d = d * 31 + number;
            d = d * 31 + water;
            d = d * 31 + highest;
            d = d * 31 + lowest;
            d = d * 31 + rain;
            d = d * 31 + (hasLevel ? 1 : 0);
            d = d * 31 + (hasLevel ? level : 0);
            return d;
        }
    }

    /** The terraces with the branches over them, the days that went by and the pushes. */
    private static final class Valley {
        private final Branch root = new Branch(1);
        private final Branch[] branches = new Branch[BRANCH_NUMBERS];
        private int terraceCount;
        private int dayCount;
        private int pushCount;
        /** What the latest going down reached. */
        private int reachedCount;
        private long seenWater;
        private int seenHighest;
        private int seenLowest;

        Valley() {
            for (int number = 1; number < branches.length; number++) {
                branches[number] = number == 1 ? root : new Branch(number);
            }
        }

        void begin(int howManyTerraces) {
            terraceCount = howManyTerraces;
            dayCount = 0;
            pushCount = 0;
            for (Branch branch : branches) {
                if (branch != null) {
                    branch.setAside();
                }
            }
            root.lieOver(0, terraceCount - 1);
            for (int number = 1; number < branches.length; number++) {
                divide(number);
            }
        }

        private void divide(int number) {
            Branch branch = slot(number);
            Branch left = slot(2 * number);
            Branch right = slot(2 * number + 1);
            if (branch == null || left == null || right == null || branch.last <= branch.first) {
                return;
            }
            int middle = (branch.first + branch.last) / 2;
            left.lieOver(branch.first, middle);
            right.lieOver(middle + 1, branch.last);
            branch.left = left;
            branch.right = right;
        }

        private Branch slot(int number) {
            return number >= 0 && number < branches.length ? branches[number] : null;
        }

        /** The branch with this number, or null if there is none. */
        Branch find(int number) {
            Branch branch = slot(number);
            return branch != null && branch.exists() ? branch : null;
        }

        /** Takes over what stands and waits in a valley of as many terraces. */
        void copy(Valley other) {
            dayCount = other.dayCount;
            pushCount = other.pushCount;
            for (int number = 1; number < branches.length; number++) {
                Branch mine = slot(number);
                Branch theirs = other.slot(number);
                if (mine != null && theirs != null) {
                    mine.copy(theirs);
                }
            }
        }

        int countBranches() {
            int count = 0;
            for (int number = 1; number < branches.length; number++) {
                count += find(number) != null ? 1 : 0;
            }
            return count;
        }

        int countWaiting() {
            int count = 0;
            for (int number = 1; number < branches.length; number++) {
                Branch branch = find(number);
                count += branch != null && branch.waits() ? 1 : 0;
            }
            return count;
        }

        int countWaitingOver(int terrace) {
            int count = 0;
            for (int number = 1; number < branches.length; number++) {
                Branch branch = find(number);
                count += branch != null && branch.touches(terrace, terrace) && branch.waits() ? 1 : 0;
            }
            return count;
        }

        /** What waits farther up came later, so that a level there hides all that is under it. */
        int height(int terrace) {
            int rainOver = 0;
            Branch branch = root;
            for (int step = 0; step < STEPS_DOWN; step++) {
                Branch left = branch.left;
                Branch right = branch.right;
                if (left == null || right == null) {
                    break;
                }
                if (branch.hasLevel) {
                    return branch.level + branch.rain + rainOver;
                }
                rainOver += branch.rain;
                branch = terrace <= left.last ? left : right;
            }
            return branch.highest + rainOver;
        }

        /** The order is RAIN, LEVEL or LOOK. */
        void goDown(int from, int to, int order, int amount) {
            reachedCount = 0;
            seenWater = 0;
            goDownAt(root, from, to, order, amount, 0);
        }

        private void goDownAt(Branch branch, int from, int to, int order, int amount, int depth) {
            if (branch.isAmong(from, to)) {
                reach(branch, order, amount);
                return;
            }
            Branch left = branch.left;
            Branch right = branch.right;
            if (left == null || right == null || depth >= STEPS_DOWN) {
                return;
            }
            pushCount += branch.open();
            if (left.touches(from, to)) {
                goDownAt(left, from, to, order, amount, depth + 1);
            }
            if (right.touches(from, to)) {
                goDownAt(right, from, to, order, amount, depth + 1);
            }
            branch.tellAnew();
        }

        private void reach(Branch branch, int order, int amount) {
            if (order == RAIN) {
                branch.takeRain(amount);
            } else if (order == LEVEL) {
                branch.takeLevel(amount);
            }
            boolean isFirst = reachedCount == 0;
            seenWater += branch.water;
            seenHighest = isFirst ? branch.highest : Math.max(seenHighest, branch.highest);
            seenLowest = isFirst ? branch.lowest : Math.min(seenLowest, branch.lowest);
            reachedCount++;
        }

        int findFirst(int height) {
            if (root.highest < height) {
                return -1;
            }
            Branch branch = root;
            for (int step = 0; step < STEPS_DOWN; step++) {
                Branch left = branch.left;
                Branch right = branch.right;
                if (left == null || right == null) {
                    break;
                }
                pushCount += branch.open();
                branch = left.highest >= height ? left : right;
            }
            return branch.first;
        }

        void openEach() {
            for (int number = 1; number < branches.length; number++) {
                Branch branch = find(number);
                if (branch != null) {
                    pushCount += branch.open();
                }
            }
        }

        /** The terrace that a number tells by its remainder. */
        int terraceToldBy(int x) {
            return terraceCount > 0 ? Math.floorMod(x, terraceCount) : 0;
        }
    }

    /** Does the steps of a plan, day by day. */
    private static final class Worker {
        /** Brackets are at most eight deep, and each leaves at most four values waiting. */
        private final int[] pile = new int[64];
        private int piled;

        void work(Plan plan, Valley valley, int days) {
            for (int day = 0; day < days; day++) {
                piled = 0;
                for (int i = 0; i < plan.stepCount; i++) {
                    int step = plan.step(i);
                    if (Grammar.isOrder(step)) {
                        doOrder(step, valley);
                    } else {
                        doReckoning(step, valley);
                    }
                }
                valley.dayCount++;
            }
        }

        private void doReckoning(int step, Valley valley) {
            if (step >= 0) {
                lay(step);
            } else if (Grammar.isReading(step)) {
                lay(readingOf(step, valley));
            } else if (step == HEIGHT) {
                lay(valley.height(valley.terraceToldBy(lift())));
            } else if (step == NOT) {
                lay(lift() == 0 ? 1 : 0);
            } else if (step == NEGATIVE) {
                lay(-lift());
            } else {
                int right = lift();
                int left = lift();
                lay(reckon(step, left, right));
            }
        }

        private void lay(int value) {
            if (piled >= 0 && piled < pile.length) {
                pile[piled] = value;
                piled++;
            }
        }

        private int lift() {
            if (piled < 1 || piled > pile.length) {
                return 0;
            }
            piled--;
            return pile[piled];
        }

        private void doOrder(int order, Valley valley) {
            boolean holds = lift() != 0;
            int to = valley.terraceToldBy(lift());
            int from = valley.terraceToldBy(lift());
            int amount = Math.max(-MOST_AMOUNT, Math.min(MOST_AMOUNT, lift()));
            if (holds) {
                valley.goDown(Math.min(from, to), Math.max(from, to), order, amount);
            }
        }

        private static int readingOf(int step, Valley valley) {
            switch (step) {
                case DAY:
                    return valley.dayCount;
                case PUSHES:
                    return valley.pushCount;
                case WATER:
                    return (int) valley.root.water;
                case HIGHEST:
                    return valley.root.highest;
                case LOWEST:
                    return valley.root.lowest;
                default:
                    return valley.countWaiting();
            }
        }

        private static int reckon(int sign, int left, int right) {
            switch (sign) {
                case PLUS:
                    return left + right;
                case MINUS:
                    return left - right;
                case TIMES:
                    return left * right;
                case DIVIDED:
                    return right == 0 ? 0 : left / right;
                case MIN:
                    return Math.min(left, right);
                case MAX:
                    return Math.max(left, right);
                default:
                    return isTrue(sign, left, right) ? 1 : 0;
            }
        }

        private static boolean isTrue(int sign, int left, int right) {
            switch (sign) {
                case AND:
                    return left != 0 && right != 0;
                case OR:
                    return left != 0 || right != 0;
                case LESS:
                    return left < right;
                case GREATER:
                    return left > right;
                case EQUAL:
                    return left == right;
                case LESS_OR_EQUAL:
                    return left <= right;
                default:
                    return left >= right;
            }
        }
    }
}
