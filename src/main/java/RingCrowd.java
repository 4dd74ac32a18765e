/**
 * Crowds of robots on a ring, all alike, that go by one table of rules: what they see, what they do, and whether
 * they come to a goal whatever order they wake in.
 */
public final class RingCrowd {
    public static final int NONE = -1000000, BAD = -1000001, STATE = -1000002, FULL = -1000003, KIND = -1000004;

    private static final int LEAST_PLACES = 3, MOST_PLACES = 9, MOST_ROBOTS = 4;
    private static final int MOST_RULES = 30, MOST_PAIRS = 4, MOST_BYTES = 400, MOST_TRACE = 16;
    private static final int WAKINGS = 3, GOALS = 3, KINDS = 4, ASKS = 2, COUNTS = 7;
    private static final int PROOFS = 5, START_COUNTS = 2;
    private static final int NO_FAULT = 0, FAULT_AT_START = -1000100;

    private static final int UP = 1, DOWN = -1, STAYS = 0, EITHER = 2;
    private static final int STAY = 0, NEAR = 1, FAR = 2;
    private static final int CROWD = 0, EVEN = 1, ROUND = 2, RIGID = 3;
    private static final int ALL = 0, ONE = 1;
    private static final int TOGETHER = 0, SPREAD = 1;

    private final Ring ring;
    private final Ways ways;
    private final Asks asks;
    private final Tape tape;
    private final Reader reader;
    private Book book;
    private Book spare;
    private int crowd;
    private int latestFault;

    public RingCrowd(int n) {
        ring = new Ring(Math.max(LEAST_PLACES, Math.min(MOST_PLACES, n)));
        ways = new Ways(ring);
        asks = new Asks(ring);
        tape = new Tape();
        reader = new Reader(tape);
        book = new Book();
        spare = new Book();
        crowd = 0;
        latestFault = NO_FAULT;
    }

    // ---- the crowd

    public int robot(int place) {
        if (noPlace(place)) {
            return BAD;
        }
        int robots = ring.robotsIn(crowd);
        if (robots >= MOST_ROBOTS) {
            return FULL;
        }
        crowd += ring.oneAt(place);
        return robots + 1;
    }

    public int wipe() {
        int robots = ring.robotsIn(crowd);
        crowd = 0;
        return robots;
    }

    public int at(int place) {
        return noPlace(place) ? BAD : ring.manyAt(crowd, place);
    }

    public int view(int place, int i) {
        if (noPlace(place)) {
            return BAD;
        }
        if (ring.manyAt(crowd, place) == 0) {
            return NONE;
        }
        return Row.item(ring.viewFrom(crowd, place), i);
    }

    public int does(int place) {
        if (noPlace(place)) {
            return BAD;
        }
        return ring.manyAt(crowd, place) == 0 ? NONE : book.moveAt(ring, crowd, place);
    }

    public int name(int place) {
        return noPlace(place) ? BAD : ring.manyAt(ring.nameOf(crowd), place);
    }

    public int goal(int goal) {
        if (outside(goal, GOALS)) {
            return BAD;
        }
        return ring.isOfGoal(crowd, goal) ? 1 : 0;
    }

    public int step() {
        if (crowd == 0) {
            return STATE;
        }
        int next = crowd;
        int moved = 0;
        for (int place = 0; place < ring.places; place++) {
            int many = ring.manyAt(crowd, place);
            int move = many == 0 ? STAYS : book.moveAt(ring, crowd, place);
            if (move != STAYS) {
                next += many * ring.shift(place, move == DOWN ? DOWN : UP);
                moved += many;
            }
        }
        crowd = next;
        return moved;
    }

    public int go(int place, int way) {
        if (noPlace(place)) {
            return BAD;
        }
        int move = ring.manyAt(crowd, place) == 0 ? STAYS : book.moveAt(ring, crowd, place);
        if (move == STAYS) {
            return STATE;
        }
        if (move == EITHER) {
            move = way == 1 ? UP : DOWN;
        }
        crowd += ring.shift(place, move);
        return 1;
    }

    // ---- rules

    public int feed(long w, int n) {
        if (n < 1 || n > 8) {
            return BAD;
        }
        return tape.append(w, n) ? tape.length : FULL;
    }

    public int rules() {
        int found = reader.read(spare);
        int place = tape.from;
        tape.clear();
        if (found != NO_FAULT) {
            latestFault = found;
            return FAULT_AT_START - place;
        }
        Book old = book;
        book = spare;
        spare = old;
        ways.forgetRules();
        return book.size;
    }

    public int fault() {
        return latestFault;
    }

    // ---- proved

    public int proves(int waking, int goal, int what) {
        if (outside(waking, WAKINGS) || outside(goal, GOALS) || outside(what, PROOFS)) {
            return BAD;
        }
        if (crowd == 0) {
            return STATE;
        }
        ways.gatherFor(ring.robotsIn(crowd));
        ways.linkBy(book, waking);
        int start = ways.numberOf(crowd);
        switch (what) {
            case 0:
                return ways.mostSteps(start, waking, goal) == NONE ? 0 : 1;
            case 4:
                return ways.mostSteps(start, waking, goal);
            default:
                return ways.countReached(ways.reachedFrom(start, waking, goal), waking, goal, what);
        }
    }

    public int starts(int waking, int goal, int what) {
        if (outside(waking, WAKINGS) || outside(goal, GOALS) || outside(what, START_COUNTS)) {
            return BAD;
        }
        if (crowd == 0) {
            return STATE;
        }
        ways.gatherFor(ring.robotsIn(crowd));
        if (what == 0) {
            return ways.size;
        }
        ways.linkBy(book, waking);
        return Long.bitCount(ways.working(waking, goal));
    }

    // ---- asked

    public int kind() {
        return crowd == 0 ? STATE : ring.kindOf(crowd);
    }

    public int as(int kind) {
        if (outside(kind, KINDS)) {
            return BAD;
        }
        if (crowd == 0) {
            return STATE;
        }
        return kind == CROWD || kind == ring.kindOf(crowd) ? ring.robotsIn(crowd) : KIND;
    }

    public int ask(int what) {
        if (outside(what, ASKS)) {
            return BAD;
        }
        if (crowd == 0) {
            return STATE;
        }
        return asks.answer(what, crowd);
    }

    public int trace(int i) {
        return asks.traced(i);
    }

    public int count(int what) {
        if (outside(what, COUNTS)) {
            return BAD;
        }
        switch (what) {
            case 0:
                return ring.places;
            case 1:
                return ring.robotsIn(crowd);
            case 2:
                return ring.takenIn(crowd);
            case 3:
                return book.size;
            case 4:
                return ring.turnsOf(crowd);
            case 5:
                return ring.mirrorsOf(crowd);
            default:
                return tape.length;
        }
    }

    private boolean noPlace(int place) {
        return outside(place, ring.places);
    }

    private static boolean outside(int number, int bound) {
        return number < 0 || number >= bound;
    }

    /**
     * A row of gaps and numbers as one long of seven bits an item, the first item highest. No item is 0, so the long
     * tells how many items there are, and rows of the same length compare as their longs do.
     */
    private static final class Row {
        private static final int BITS = 7, LOW = 127, MOST_ITEMS = 2 * MOST_PAIRS;

        static long with(long row, int item) {
            return (row << BITS) | (item & LOW);
        }

        static int item(long row, int i) {
            int items = 0;
            for (long rest = row; rest != 0 && items < MOST_ITEMS; rest >>>= BITS) {
                items++;
            }
            return outside(i, items) ? NONE : (int) (row >>> (BITS * (items - 1 - i))) & LOW;
        }
    }

    /**
     * The ring and what can be told of a crowd on it without rules. A crowd is one int of three bits a place, place 0
     * highest: so crowds compare as their rows of numbers do, and a robot that goes is an addition.
     */
    private static final class Ring {
        private static final int BITS = 3, LOW = 7;

        private final int places;
        private final int mask;

        Ring(int places) {
            this.places = places;
            this.mask = (1 << (BITS * places)) - 1;
        }

        int oneAt(int place) {
            return 1 << (BITS * (places - 1 - place));
        }

        int manyAt(int crowd, int place) {
            return (crowd >>> (BITS * (places - 1 - place))) & LOW;
        }

        int beside(int place, int way) {
            int next = place + way;
            if (next >= places) {
                return 0;
            }
            return next < 0 ? places - 1 : next;
        }

        /** What is added to a crowd when one robot at a place goes up or down. */
        int shift(int place, int way) {
            return oneAt(beside(place, way)) - oneAt(place);
        }

        int robotsIn(int crowd) {
            int robots = 0;
            for (int place = 0; place < places; place++) {
                robots += manyAt(crowd, place);
            }
            return robots;
        }

        int takenIn(int crowd) {
            int taken = 0;
            for (int place = 0; place < places; place++) {
                if (manyAt(crowd, place) > 0) {
                    taken++;
                }
            }
            return taken;
        }

        int turned(int crowd) {
            return ((crowd << BITS) & mask) | (crowd >>> (BITS * (places - 1)));
        }

        int mirrored(int crowd) {
            int mirror = 0;
            for (int place = places - 1; place >= 0; place--) {
                mirror = (mirror << BITS) | manyAt(crowd, place);
            }
            return mirror;
        }

        int nameOf(int crowd) {
            int greatest = crowd;
            int turn = crowd;
            int mirror = mirrored(crowd);
            for (int i = 0; i < places; i++) {
                greatest = Math.max(greatest, Math.max(turn, mirror));
                turn = turned(turn);
                mirror = turned(mirror);
            }
            return greatest;
        }

        int turnsOf(int crowd) {
            return turnsBetween(crowd, crowd);
        }

        /** Each mirror is the one that reverses the row, and a turn. */
        int mirrorsOf(int crowd) {
            return turnsBetween(mirrored(crowd), crowd);
        }

        private int turnsBetween(int from, int to) {
            int turns = 0;
            int turn = from;
            for (int i = 0; i < places; i++) {
                if (turn == to) {
                    turns++;
                }
                turn = turned(turn);
            }
            return turns;
        }

        int kindOf(int crowd) {
            if (turnsOf(crowd) > 1) {
                return ROUND;
            }
            return mirrorsOf(crowd) > 0 ? EVEN : RIGID;
        }

        long rowFrom(int crowd, int place, int way) {
            long row = 0;
            int gap = 0;
            int met = place;
            for (int i = 0; i < places; i++) {
                met = beside(met, way);
                gap++;
                int many = manyAt(crowd, met);
                if (many > 0) {
                    row = Row.with(Row.with(row, gap), many);
                    gap = 0;
                }
            }
            return row;
        }

        long viewFrom(int crowd, int place) {
            return Math.min(rowFrom(crowd, place, UP), rowFrom(crowd, place, DOWN));
        }

        boolean isOfGoal(int crowd, int goal) {
            int robots = robotsIn(crowd);
            int taken = takenIn(crowd);
            if (robots == 0) {
                return false;
            }
            if (goal == TOGETHER) {
                return taken == 1;
            }
            if (taken != robots) {
                return false;
            }
            return goal == SPREAD ? isSpread(crowd, places / robots) : isSideBySide(crowd);
        }

        private boolean isSpread(int crowd, int least) {
            for (int place = 0; place < places; place++) {
                if (manyAt(crowd, place) > 0) {
                    int gap = gapAbove(crowd, place);
                    if (gap != least && gap != least + 1) {
                        return false;
                    }
                }
            }
            return true;
        }

        private int gapAbove(int crowd, int place) {
            int met = place;
            for (int gap = 1; gap < places; gap++) {
                met = beside(met, UP);
                if (manyAt(crowd, met) > 0) {
                    return gap;
                }
            }
            return places;
        }

        /** Places that follow one another end once, or never where they are the whole ring. */
        private boolean isSideBySide(int crowd) {
            int ends = 0;
            for (int place = 0; place < places; place++) {
                if (manyAt(crowd, place) > 0 && manyAt(crowd, beside(place, UP)) == 0) {
                    ends++;
                }
            }
            return ends <= 1;
        }
    }

    /** The rules: rows, and what a robot does that has one of them for its view. */
    private static final class Book {
        private final long[] rows = new long[MOST_RULES];
        private final int[] acts = new int[MOST_RULES];
        private int size = 0;

        void clear() {
            size = 0;
        }

        void put(long row, int act) {
            if (size < MOST_RULES) {
                rows[size] = row;
                acts[size] = act;
                size++;
            }
        }

        boolean has(long row) {
            return find(row) >= 0;
        }

        private int find(long row) {
            for (int i = 0; i < size && i < MOST_RULES; i++) {
                if (rows[i] == row) {
                    return i;
                }
            }
            return -1;
        }

        int moveAt(Ring ring, int crowd, int place) {
            long up = ring.rowFrom(crowd, place, UP);
            long down = ring.rowFrom(crowd, place, DOWN);
            int rule = find(Math.min(up, down));
            int act = outside(rule, MOST_RULES) ? STAY : acts[rule];
            if (act == STAY) {
                return STAYS;
            }
            if (up == down) {
                return EITHER;
            }
            return (up < down) == (act == NEAR) ? UP : DOWN;
        }
    }

    /** The bytes that have been fed, and the tokens they are, one after another. */
    private static final class Tape {
        private static final int NO_TOKEN = 0, END = 1, NUMBER = 2, COMMA = 3, STOP = 4, SEE = 5, WORD = 6;

        private final int[] bytes = new int[MOST_BYTES];
        private int length = 0;
        /** The token that was read last: what it is, its first byte, and its number or the act it tells. */
        private int token = NO_TOKEN;
        private int from = 0;
        private int value = 0;
        private int behind = 0;

        void clear() {
            length = 0;
            rewind();
        }

        void rewind() {
            token = NO_TOKEN;
            from = 0;
            value = 0;
            behind = 0;
        }

        boolean append(long w, int n) {
            if (length + n > MOST_BYTES) {
                return false;
            }
            for (int i = n - 1; i >= 0; i--) {
                bytes[length] = (int) (w >>> (8 * i)) & 255;
                length++;
            }
            return true;
        }

        void readToken() {
            from = behind;
            while (from < length && isBlank(byteAt(from))) {
                from++;
            }
            behind = from + 1;
            value = 0;
            int first = byteAt(from);
            if (from >= length) {
                behind = length;
                token = END;
            } else if (isFigure(first)) {
                readNumber();
            } else if (isLetter(first)) {
                readName();
            } else {
                token = first == ',' ? COMMA : first == ';' ? STOP : NO_TOKEN;
            }
        }

        private void readNumber() {
            while (behind < length && isFigure(byteAt(behind))) {
                behind++;
            }
            token = behind - from > 2 ? NO_TOKEN : NUMBER;
            for (int i = from; i < behind && token == NUMBER; i++) {
                value = 10 * value + byteAt(i) - '0';
            }
        }

        private void readName() {
            while (behind < length && isLetter(byteAt(behind))) {
                behind++;
            }
            token = WORD;
            if (spells("see")) {
                token = SEE;
            } else if (spells("near")) {
                value = NEAR;
            } else if (spells("far")) {
                value = FAR;
            } else if (spells("stay")) {
                value = STAY;
            } else {
                token = NO_TOKEN;
            }
        }

        private boolean spells(String word) {
            if (behind - from != word.length()) {
                return false;
            }
            for (int i = 0; i < word.length(); i++) {
                if (byteAt(from + i) != word.charAt(i)) {
                    return false;
                }
            }
            return true;
        }

        private int byteAt(int i) {
            return outside(i, length) || i >= MOST_BYTES ? -1 : bytes[i];
        }

        private static boolean isBlank(int b) {
            return b == 32 || b == 10;
        }

        private static boolean isFigure(int b) {
            return b >= '0' && b <= '9';
        }

        private static boolean isLetter(int b) {
            return b >= 'a' && b <= 'z';
        }
    }

    /** Reads the tape as a text of rules. */
    private static final class Reader {
        private static final int WANTS_SEE = 0, WANTS_GAP = 1, WANTS_MANY = 2, WANTS_ACT = 3, WANTS_STOP = 4;
        private static final int MISPLACED = 1, ZERO = 2, TOO_MUCH = 3;

        private final Tape tape;
        private int wants = WANTS_SEE;
        private int pairs = 0;
        private int sees = 0;
        private long row = 0;

        Reader(Tape tape) {
            this.tape = tape;
        }

        /** Fills a book; the fault, which is at the token that was read last, or NO_FAULT. */
        int read(Book into) {
            into.clear();
            tape.rewind();
            wants = WANTS_SEE;
            sees = 0;
            // a token has a byte at least, and the end comes behind them
            for (int i = 0; i <= MOST_BYTES; i++) {
                tape.readToken();
                int found = faultAgainst(into);
                if (found != NO_FAULT || tape.token == Tape.END) {
                    return found;
                }
                take(into);
            }
            return NO_FAULT;
        }

        private int faultAgainst(Book into) {
            if (!isPlaced()) {
                return MISPLACED;
            }
            if (tape.token == Tape.NUMBER && tape.value == 0) {
                return ZERO;
            }
            return isTooMuch(into) ? TOO_MUCH : NO_FAULT;
        }

        private boolean isPlaced() {
            switch (wants) {
                case WANTS_SEE:
                    return tape.token == Tape.SEE || tape.token == Tape.END;
                case WANTS_ACT:
                    return tape.token == Tape.COMMA || tape.token == Tape.WORD;
                case WANTS_STOP:
                    return tape.token == Tape.STOP;
                default:
                    return tape.token == Tape.NUMBER;
            }
        }

        private boolean isTooMuch(Book into) {
            switch (tape.token) {
                case Tape.COMMA:
                    return pairs >= MOST_PAIRS;
                case Tape.SEE:
                    return sees >= MOST_RULES;
                case Tape.WORD:
                    return into.has(row);
                default:
                    return false;
            }
        }

        private void take(Book into) {
            switch (tape.token) {
                case Tape.SEE:
                    sees++;
                    pairs = 0;
                    row = 0;
                    wants = WANTS_GAP;
                    break;
                case Tape.NUMBER:
                    takeNumber();
                    break;
                case Tape.COMMA:
                    wants = WANTS_GAP;
                    break;
                case Tape.WORD:
                    into.put(row, tape.value);
                    wants = WANTS_STOP;
                    break;
                default:
                    wants = WANTS_SEE;
            }
        }

        private void takeNumber() {
            row = Row.with(row, tape.value);
            if (wants == WANTS_MANY) {
                pairs++;
            }
            wants = wants == WANTS_GAP ? WANTS_MANY : WANTS_ACT;
        }
    }

    /**
     * All crowds of one size by their names, and which lead to which. There are at most 35 names (4 robots on 9
     * places), so a set of them is the bits of a long. What has been found is kept until the rules or the number of
     * robots change, since proofs are asked for in rows.
     */
    private static final class Ways {
        private static final int MOST_NAMES = 64, MOST_NEXT = 81;

        private final Ring ring;
        private final int[] names = new int[MOST_NAMES];
        private final long[] goals = new long[GOALS];
        private final long[] links = new long[WAKINGS * MOST_NAMES];
        private final boolean[] linked = new boolean[WAKINGS];
        /** What is added to the crowd at hand when one robot at a place goes up or down, 0 where it does not. */
        private final int[] ups = new int[MOST_PLACES];
        private final int[] downs = new int[MOST_PLACES];
        private final int[] next = new int[MOST_NEXT];
        private int robots = 0;
        private int size = 0;
        private int nexts = 0;

        Ways(Ring ring) {
            this.ring = ring;
        }

        void forgetRules() {
            for (int waking = 0; waking < WAKINGS; waking++) {
                linked[waking] = false;
            }
        }

        void gatherFor(int many) {
            if (robots == many) {
                return;
            }
            robots = many;
            size = 0;
            // the greatest row has a robot at place 0
            gather(ring.oneAt(0), 0, Math.min(many, MOST_ROBOTS) - 1);
            markGoals();
            forgetRules();
        }

        private void gather(int crowd, int place, int left) {
            if (left <= 0) {
                if (size < MOST_NAMES && ring.nameOf(crowd) == crowd) {
                    names[size] = crowd;
                    size++;
                }
                return;
            }
            for (int later = place; later < ring.places; later++) {
                gather(crowd + ring.oneAt(later), later, left - 1);
            }
        }

        private void markGoals() {
            for (int goal = 0; goal < GOALS; goal++) {
                goals[goal] = 0;
                for (int i = 0; i < size && i < MOST_NAMES; i++) {
                    if (ring.isOfGoal(names[i], goal)) {
                        goals[goal] |= 1L << i;
                    }
                }
            }
        }

        int numberOf(int crowd) {
            int name = ring.nameOf(crowd);
            for (int i = 0; i < size && i < MOST_NAMES; i++) {
                if (names[i] == name) {
                    return i;
                }
            }
            return 0;
        }

        void linkBy(Book book, int waking) {
            if (outside(waking, WAKINGS) || linked[waking]) {
                return;
            }
            linked[waking] = true;
            for (int i = 0; i < size && i < MOST_NAMES; i++) {
                findMoves(book, names[i]);
                nexts = 0;
                if (waking == ONE) {
                    wakeOne(names[i]);
                } else {
                    wakeSome(names[i], waking == ALL);
                }
                setLinks(waking, i, numbersOfNext());
            }
        }

        private long numbersOfNext() {
            long numbers = 0;
            for (int i = 0; i < nexts && i < MOST_NEXT; i++) {
                numbers |= 1L << numberOf(next[i]);
            }
            return numbers;
        }

        private void findMoves(Book book, int crowd) {
            for (int place = 0; place < ring.places && place < MOST_PLACES; place++) {
                int move = ring.manyAt(crowd, place) == 0 ? STAYS : book.moveAt(ring, crowd, place);
                ups[place] = move == UP || move == EITHER ? ring.shift(place, UP) : 0;
                downs[place] = move == DOWN || move == EITHER ? ring.shift(place, DOWN) : 0;
            }
        }

        private void addNext(int crowd) {
            if (nexts < MOST_NEXT) {
                next[nexts] = crowd;
                nexts++;
            }
        }

        private void addMoved(int crowd, int up, int down) {
            if (up != 0) {
                addNext(crowd + up);
            }
            if (down != 0) {
                addNext(crowd + down);
            }
        }

        private void wakeOne(int crowd) {
            for (int place = 0; place < ring.places && place < MOST_PLACES; place++) {
                addMoved(crowd, ups[place], downs[place]);
            }
        }

        /** Robot by robot, each crowd so far becomes those that this robot's choices make of it. */
        private void wakeSome(int crowd, boolean all) {
            boolean anyGoes = false;
            addNext(crowd);
            for (int place = 0; place < ring.places && place < MOST_PLACES; place++) {
                boolean goes = ups[place] != 0 || downs[place] != 0;
                int many = goes ? ring.manyAt(crowd, place) : 0;
                for (int i = 0; i < many; i++) {
                    anyGoes = true;
                    wakeAgain(ups[place], downs[place], all);
                }
            }
            if (!all || !anyGoes) {
                // the first is the crowd in which nobody has gone, and that is no step
                dropFirst(1);
            }
        }

        private void wakeAgain(int up, int down, boolean mustGo) {
            int before = nexts;
            for (int i = 0; i < before && i < MOST_NEXT; i++) {
                addMoved(next[i], up, down);
            }
            if (mustGo) {
                dropFirst(before);
            }
        }

        private void dropFirst(int many) {
            for (int i = many; i < nexts && i < MOST_NEXT; i++) {
                next[i - many] = next[i];
            }
            nexts -= many;
        }

        private void setLinks(int waking, int i, long to) {
            int at = waking * MOST_NAMES + i;
            if (!outside(at, WAKINGS * MOST_NAMES)) {
                links[at] = to;
            }
        }

        private long linksOf(int waking, int i) {
            int at = waking * MOST_NAMES + i;
            return outside(at, WAKINGS * MOST_NAMES) ? 0 : links[at];
        }

        private long ofGoal(int goal) {
            return outside(goal, GOALS) ? 0 : goals[goal];
        }

        /** Those from which every way is at the goal within one step more than from those that are safe. */
        private long safeByOne(long safe, int waking) {
            long more = safe;
            for (int i = 0; i < size; i++) {
                long to = linksOf(waking, i);
                if (to != 0 && (to & ~safe) == 0) {
                    more |= 1L << i;
                }
            }
            return more;
        }

        /** A crowd is never safe if it can come to a stop elsewhere or go round, so those that become safe WORK. */
        long working(int waking, int goal) {
            long safe = ofGoal(goal);
            for (int i = 0; i < size; i++) {
                long before = safe;
                safe = safeByOne(before, waking);
                if (safe == before) {
                    break;
                }
            }
            return safe;
        }

        int mostSteps(int start, int waking, int goal) {
            long safe = ofGoal(goal);
            for (int steps = 0; steps < size; steps++) {
                if ((safe & (1L << start)) != 0) {
                    return steps;
                }
                safe = safeByOne(safe, waking);
            }
            return NONE;
        }

        long reachedFrom(int start, int waking, int goal) {
            long reached = 1L << start;
            for (int round = 0; round < size; round++) {
                long before = reached;
                for (int i = 0; i < size; i++) {
                    if ((before & ~ofGoal(goal) & (1L << i)) != 0) {
                        reached |= linksOf(waking, i);
                    }
                }
                if (reached == before) {
                    break;
                }
            }
            return reached;
        }

        /** Of those reached: 1 all, 2 those of the goal, 3 those elsewhere from which no step leads on. */
        int countReached(long reached, int waking, int goal, int what) {
            if (what == 1) {
                return Long.bitCount(reached);
            }
            if (what == 2) {
                return Long.bitCount(reached & ofGoal(goal));
            }
            int stuck = 0;
            for (int i = 0; i < size; i++) {
                if ((reached & ~ofGoal(goal) & (1L << i)) != 0 && linksOf(waking, i) == 0) {
                    stuck++;
                }
            }
            return stuck;
        }
    }

    /** The asks by their bodies, and the trace that these leave. */
    private static final class Asks {
        private final Ring ring;
        private final int[] begun = new int[MOST_TRACE];
        private int length = 0;

        Asks(Ring ring) {
            this.ring = ring;
        }

        int answer(int what, int crowd) {
            length = 0;
            return what == 0 ? sizeOf(crowd) : markOf(crowd);
        }

        int traced(int i) {
            return outside(i, length) || i >= MOST_TRACE ? NONE : begun[i];
        }

        private void begin(int body) {
            if (length < MOST_TRACE) {
                begun[length] = body;
                length++;
            }
        }

        private int sizeOf(int crowd) {
            switch (ring.kindOf(crowd)) {
                case EVEN:
                    begin(11);
                    return lentSize(crowd) + ring.places;
                case ROUND:
                    begin(12);
                    return lentSize(crowd) + ring.turnsOf(crowd);
                case RIGID:
                    begin(13);
                    return 2 * lentSize(crowd);
                default:
                    return lentSize(crowd);
            }
        }

        private int lentSize(int crowd) {
            begin(10);
            return ring.robotsIn(crowd);
        }

        private int markOf(int crowd) {
            switch (ring.kindOf(crowd)) {
                case ROUND:
                    begin(21);
                    return lentMark(crowd) + sizeOf(crowd);
                case RIGID:
                    begin(22);
                    return lentMark(crowd) + 100;
                default:
                    return lentMark(crowd);
            }
        }

        private int lentMark(int crowd) {
            begin(20);
            return ring.takenIn(crowd);
        }
    }
}
