/** The red carpet that goes ahead of its person; README.md says how it is used. */
public final class AheadOfPerson {
    public static final int NONE = -1, BAD = -2, STATE = -3, FULL = -4;
    public static final long NO = Long.MIN_VALUE;

    private static final int NOT_BY_THEN = -5, OTHER_KIND = -6, NO_SUCH = -999999;
    private static final int CELLS = 16, KINDS = 7, PERSONS = 6, TOWNS = 5, SIGNS = 100, BEATS = 4;
    private static final int LAST_STEP = 9999, MOST_LAIN = 99, FARTHEST = 60, NEAR_FUTURE = 30, SEEN_UNTIL = 20;
    /** What is asked goes on beyond 99, so nothing stops LAIN there. */
    private static final int UNSTOPPED = 1000000;
    private static final int HOPER = 1, SWEEP = 2, CROWD = 3, WAITER = 4, KING = 5, TOLD = 6;
    /** The KIND above each; a PERSON has none above and stands for itself. */
    private static final int[] ABOVE = {0, 0, 0, 0, HOPER, SWEEP, CROWD};

    private final Scene now = new Scene();
    private final Scene taken = new Scene();
    private boolean isTaken = false;
    private final Reader reader = new Reader();
    private final Course course = new Course();
    private final Acts acts = new Acts();

    public AheadOfPerson() {
    }

    // ---- towns, persons, the carpet

    public int feed(int sign) {
        if (sign < 0 || sign > 127) {
            return BAD;
        }
        return now.tape.add(sign, 0);
    }

    public int town() {
        if (now.towns >= TOWNS) {
            return FULL;
        }
        boolean read = reader.reads(now.tape);
        now.tape.clear();
        if (!read) {
            return -10 - reader.at;
        }
        now.town.copyFrom(reader.draft);
        now.towns++;
        return now.towns - 1;
    }

    public int person(int kind, int v, int cell) {
        if (!isKind(kind) || !isCell(cell)) {
            return NONE;
        }
        if (!isDigit(v)) {
            return BAD;
        }
        return now.folk.add(kind, v, cell);
    }

    public int of(int person, int what) {
        if (!now.folk.has(person)) {
            return NO_SUCH;
        }
        switch (what) {
            case 0:
                return now.folk.kind[person];
            case 1:
                return now.folk.v[person];
            case 2:
                return now.folk.cell[person];
            case 3:
                return now.folk.isAway(person) ? 1 : 0;
            default:
                break;
        }
        if (isCell(what - 10)) {
            course.begin(now);
            return course.lure(person, what - 10);
        }
        if (isCell(what - 30)) {
            course.begin(now);
            course.reckon();
            return course.tug(person, what - 30);
        }
        return NO_SUCH;
    }

    public int line(int person, int k, int n) {
        if (!now.folk.has(person) || k < 0 || k >= BEATS) {
            return NONE;
        }
        if (!isDigit(n)) {
            return BAD;
        }
        if (now.folk.kind[person] != TOLD) {
            return STATE;
        }
        int was = now.folk.line[person * BEATS + k];
        now.folk.line[person * BEATS + k] = n;
        return was;
    }

    public int move(int person, int cell) {
        if (!now.folk.has(person) || !isCell(cell)) {
            return NONE;
        }
        int was = now.folk.cell[person];
        now.folk.cell[person] = cell;
        return was;
    }

    public int away(int person, boolean is) {
        if (!now.folk.has(person)) {
            return NONE;
        }
        boolean was = now.folk.isAway(person);
        now.folk.setAway(person, is);
        return was ? 1 : 0;
    }

    public int lay(int cell) {
        if (!isCell(cell)) {
            return NONE;
        }
        int was = now.carpet.cell;
        now.carpet.cell = cell;
        return was;
    }

    public int told(int what) {
        switch (what) {
            case 0:
                return now.carpet.step;
            case 1:
                return now.town.bored;
            case 2:
                return now.carpet.cell;
            case 3:
                return now.carpet.cellsLainOn();
            default:
                break;
        }
        if (isCell(what - 10)) {
            course.begin(now);
            course.reckon();
            return course.draw(what - 10);
        }
        if (isCell(what - 30)) {
            return now.carpet.lain[what - 30];
        }
        return NO_SUCH;
    }

    public int pass(int n) {
        if (!isFuture(n)) {
            return BAD;
        }
        if (now.carpet.step + n > LAST_STEP) {
            return STATE;
        }
        course.begin(now);
        for (int i = 0; i < n; i++) {
            course.go(MOST_LAIN);
        }
        now.carpet.copyFrom(course.carpet);
        return now.carpet.cell;
    }

    // ---- steps to come

    public int on(int n, int what) {
        boolean isLain = isCell(what - 10);
        if (what != 0 && what != 1 && !isLain) {
            return NONE;
        }
        if (!isFuture(n)) {
            return BAD;
        }
        course.begin(now);
        course.goSteps(n);
        if (isLain) {
            return course.carpet.lain[what - 10];
        }
        return what == 0 ? course.carpet.cell : course.carpet.cellsLainOn();
    }

    public int finds(int person) {
        if (!now.folk.has(person)) {
            return NONE;
        }
        course.begin(now);
        return course.comesTo(now.folk.cell[person], FARTHEST);
    }

    public int soonest(int cell, int what) {
        if (!isCell(cell) || !isEither(what)) {
            return NONE;
        }
        course.begin(now);
        int which = NOT_BY_THEN;
        int fewest = NEAR_FUTURE + 1;
        for (int from = 0; from < CELLS; from++) {
            if (from == cell) {
                continue;
            }
            course.again();
            course.carpet.cell = from;
            int steps = course.comesTo(cell, fewest - 1);
            if (steps >= 0) {
                fewest = steps;
                which = from;
            }
        }
        return what == 0 || which < 0 ? which : fewest;
    }

    public int call(int cell) {
        if (!isCell(cell)) {
            return NONE;
        }
        course.begin(now);
        int asItIs = course.comesTo(cell, NEAR_FUTURE);
        int fewest = asItIs < 0 ? NEAR_FUTURE + 1 : asItIs;
        int best = NOT_BY_THEN;
        for (int person = 0; person < now.folk.size; person++) {
            for (int to = 0; to < CELLS && !now.folk.isAway(person); to++) {
                course.again();
                course.putPerson(person, to);
                int steps = course.comesTo(cell, fewest - 1);
                if (steps >= 0) {
                    fewest = steps;
                    best = 100 * person + to;
                }
            }
            course.putPerson(person, now.folk.cell[person]);
        }
        return best;
    }

    public int kept(int cell) {
        if (!isCell(cell)) {
            return NONE;
        }
        course.begin(now);
        int best = NOT_BY_THEN;
        int fewest = PERSONS + 1;
        for (int set = 0; set < 1 << now.folk.size; set++) {
            if (Integer.bitCount(set) >= fewest) {
                continue;
            }
            course.again();
            course.folk.away = now.folk.away | set;
            course.goSteps(1);
            if (course.comesTo(cell, NEAR_FUTURE - 1) < 0) {
                best = set;
                fewest = Integer.bitCount(set);
            }
        }
        return best;
    }

    // ---- walks, seen, odds; part 0 above, 1 below the line

    public int walk(int cell) {
        if (cell == -1) {
            return now.walk.clear();
        }
        if (!isCell(cell)) {
            return NONE;
        }
        return now.walk.add(cell, 0);
    }

    public int met(int what) {
        if (!isEither(what)) {
            return NONE;
        }
        course.begin(now);
        // FOLLOWED looks one STEP back on the WALK, so it may still be so one STEP behind its last CELL.
        for (int i = 0; i < now.walk.size + what; i++) {
            if (i >= what && now.walk.first[i - what] == course.carpet.cell) {
                return i;
            }
            course.goSteps(1);
        }
        return NOT_BY_THEN;
    }

    public int see(int cell, int n) {
        if (cell == -1) {
            return now.seen.clear();
        }
        if (!isCell(cell)) {
            return NONE;
        }
        if (n < 0 || n > SEEN_UNTIL) {
            return BAD;
        }
        return now.seen.add(cell, n);
    }

    public int doors(int person) {
        if (!now.folk.has(person)) {
            return NONE;
        }
        course.begin(now);
        int doors = 0;
        for (int cell = 0; cell < CELLS; cell++) {
            course.putPerson(person, cell);
            if (course.isAsSeen(now.seen)) {
                doors |= 1 << cell;
            }
        }
        return doors;
    }

    public int firm(int person, int what) {
        if (!now.folk.has(person) || !isEither(what)) {
            return NONE;
        }
        course.begin(now);
        int least = NOT_BY_THEN;
        int count = 0;
        for (int v = 9; v >= 0; v--) {
            course.makePerson(person, v);
            if (course.isAsSeen(now.seen)) {
                least = v;
                count++;
            }
        }
        return what == 0 ? count : least;
    }

    public int sought() {
        course.begin(now);
        int all = (1 << now.folk.size) - 1;
        int sought = 0;
        for (int person = 0; person < now.folk.size; person++) {
            course.folk.away = all ^ 1 << person;
            if (course.isAsSeen(now.seen)) {
                sought |= 1 << person;
            }
        }
        return sought;
    }

    public long odds(int cell, int n, int part) {
        if (!isCell(cell) || !isFuture(n) || !isEither(part) || now.folk.size == 0) {
            return NO;
        }
        course.begin(now);
        int there = 0;
        for (int person = 0; person < now.folk.size; person++) {
            course.again();
            course.folk.away = now.folk.away | 1 << person;
            course.goSteps(n);
            if (course.carpet.cell == cell) {
                there++;
            }
        }
        return inLowestTerms(there, now.folk.size, part);
    }

    public long mean(int n, int part) {
        if (!isFuture(n) || !isEither(part)) {
            return NO;
        }
        course.begin(now);
        course.goSteps(n);
        int together = 0;
        int count = 0;
        for (int person = 0; person < now.folk.size; person++) {
            if (!now.folk.isAway(person)) {
                together += far(course.carpet.cell, now.folk.cell[person]);
                count++;
            }
        }
        return count == 0 ? NO : inLowestTerms(together, count, part);
    }

    // ---- plans, books

    public int plan(int what, int n) {
        if (what == -1) {
            return now.plan.clear();
        }
        switch (what) {
            case Course.STEP_GOES:
                return now.plan.add(what, n);
            case Course.ONE_IS_AWAY:
            case Course.ONE_IS_NOT:
                return now.folk.has(n) ? now.plan.add(what, n) : NONE;
            case Course.CARPET_IS_PUT:
                return isCell(n) ? now.plan.add(what, n) : NONE;
            default:
                return NONE;
        }
    }

    public int done(int what) {
        if (!isEither(what)) {
            return NONE;
        }
        course.begin(now);
        for (int row = 0; row < now.plan.size; row++) {
            course.follow(now.plan.first[row], now.plan.second[row]);
        }
        return what == 0 ? course.carpet.cell : course.carpet.cellsLainOn();
    }

    public int book(int cell, int lain) {
        if (cell == -1) {
            return now.book.clear();
        }
        if (!isCell(cell)) {
            return NONE;
        }
        if (lain < 0 || lain > MOST_LAIN) {
            return BAD;
        }
        return now.book.add(cell, lain);
    }

    public int looked() {
        for (int row = 0; row < now.book.size; row++) {
            if (now.carpet.lain[now.book.first[row]] != now.book.second[row]) {
                return row;
            }
        }
        return NOT_BY_THEN;
    }

    // ---- acts, the image

    public int act(int person, int act, int x) {
        acts.ran = 0;
        if (!now.folk.has(person) || act < 0 || act >= Acts.KINDS_OF_ACTS) {
            return 0;
        }
        return acts.start(now.folk, person, act, x);
    }

    public int trace(int i) {
        if (i < 0 || i >= acts.inTrace()) {
            return NONE;
        }
        return acts.bodies[i];
    }

    public int as(int person, int k) {
        if (!now.folk.has(person) || !isKind(k)) {
            return NONE;
        }
        int kind = now.folk.kind[person];
        boolean isOne = kind == k || ABOVE[kind] == k || ABOVE[ABOVE[kind]] == k;
        return isOne ? now.folk.v[person] : OTHER_KIND;
    }

    public int image() {
        taken.copyFrom(now);
        isTaken = true;
        return now.folk.size;
    }

    public int undo() {
        if (!isTaken) {
            return STATE;
        }
        now.copyFrom(taken);
        return now.folk.size;
    }

    public int count(int what) {
        switch (what) {
            case 0:
                return now.folk.size;
            case 1:
                return now.towns;
            case 2:
                return now.walk.size;
            case 3:
                return now.seen.size;
            case 4:
                return now.plan.size;
            case 5:
                return now.book.size;
            case 6:
                return now.tape.size;
            case 7:
                return acts.ran;
            default:
                return NONE;
        }
    }

    // ---- what numbers are

    private static boolean isCell(int cell) {
        return cell >= 0 && cell < CELLS;
    }

    private static boolean isKind(int kind) {
        return kind >= 0 && kind < KINDS;
    }

    private static boolean isDigit(int n) {
        return n >= 0 && n <= 9;
    }

    private static boolean isFuture(int n) {
        return n >= 0 && n <= FARTHEST;
    }

    private static boolean isEither(int what) {
        return what == 0 || what == 1;
    }

    private static int far(int cell, int other) {
        return Math.abs(cell / 4 - other / 4) + Math.abs(cell % 4 - other % 4);
    }

    private static long inLowestTerms(int above, int below, int part) {
        int divisor = below;
        int rest = above;
        for (int i = 0; i < SIGNS && rest != 0; i++) {
            int next = divisor % rest;
            divisor = rest;
            rest = next;
        }
        if (divisor == 0) {
            return NO;
        }
        return (part == 0 ? above : below) / divisor;
    }

    /** Rows of one or two numbers, as many as there is room for. */
    private static final class Rows {
        final int[] first;
        final int[] second;
        int size = 0;

        Rows(int most) {
            first = new int[Math.max(most, 0)];
            second = new int[Math.max(most, 0)];
        }

        int add(int one, int other) {
            if (size >= first.length || size >= second.length) {
                return FULL;
            }
            first[size] = one;
            second[size] = other;
            size++;
            return size;
        }

        int clear() {
            size = 0;
            return 0;
        }

        void copyFrom(Rows other) {
            clear();
            for (int i = 0; i < other.size; i++) {
                add(other.first[i], other.second[i]);
            }
        }
    }

    /** All PERSONS; who is AWAY is held as bits, since sets of them are asked for. */
    private static final class Folk {
        final int[] kind = new int[PERSONS];
        final int[] v = new int[PERSONS];
        final int[] cell = new int[PERSONS];
        final int[] line = new int[PERSONS * BEATS];
        int away = 0;
        int size = 0;

        boolean has(int person) {
            return person >= 0 && person < size;
        }

        boolean isAway(int person) {
            return (away >> person & 1) == 1;
        }

        void setAway(int person, boolean is) {
            away = is ? away | 1 << person : away & ~(1 << person);
        }

        int add(int itsKind, int itsV, int itsCell) {
            if (size >= PERSONS) {
                return FULL;
            }
            kind[size] = itsKind;
            v[size] = itsV;
            cell[size] = itsCell;
            setAway(size, false);
            for (int k = 0; k < BEATS; k++) {
                line[size * BEATS + k] = 0;
            }
            size++;
            return size - 1;
        }

        void copyFrom(Folk other) {
            System.arraycopy(other.kind, 0, kind, 0, PERSONS);
            System.arraycopy(other.v, 0, v, 0, PERSONS);
            System.arraycopy(other.cell, 0, cell, 0, PERSONS);
            System.arraycopy(other.line, 0, line, 0, PERSONS * BEATS);
            away = other.away;
            size = other.size;
        }
    }

    /** Where THE CARPET is, where it lay, and at which STEP. */
    private static final class Carpet {
        final int[] lain = new int[CELLS];
        int cell = 0;
        int step = 0;

        int cellsLainOn() {
            int count = 0;
            for (int c = 0; c < CELLS; c++) {
                count += lain[c] > 0 ? 1 : 0;
            }
            return count;
        }

        void copyFrom(Carpet other) {
            System.arraycopy(other.lain, 0, lain, 0, CELLS);
            cell = other.cell;
            step = other.step;
        }
    }

    /** The CLAUSES that hold, and what they make of one of PERSONS for all CELLS at once, as bits by CELL. */
    private static final class Town {
        static final int CLAUSES = 10, BORED_WITHOUT = 2, LURE_WITHOUT = 6, ALL_CELLS = 0xFFFF;
        static final int BORED = 0, HOPE = 1, SHY = 2;
        /** Behind the parts that they join; what is not one of these is a TEST. */
        static final int OR = -1, AND = -2, NOT = -3;
        static final int P = 0, K = 1, V = 2, F = 3, C = 4, S = 5;
        /** 5 open ( have at most two parts waiting each, so has what is around them, and one is at work. */
        static final int MOST_WAITING = 13;

        final int[] word = new int[CLAUSES];
        final int[] n = new int[CLAUSES];
        final int[] from = new int[CLAUSES];
        final int[] code = new int[SIGNS];
        int clauses = 0;
        int size = 0;
        int bored = BORED_WITHOUT;
        /** Whether any TEST asks for STEP: without one, LURE is the same at all STEPS. */
        boolean asksStep = false;
        private final int[] waiting = new int[MOST_WAITING];
        final int[] lure = new int[CELLS];
        final int[] fars = new int[CELLS];

        void clear() {
            clauses = 0;
            size = 0;
            bored = BORED_WITHOUT;
            asksStep = false;
        }

        void begin(int itsWord, int itsN) {
            if (clauses >= CLAUSES) {
                return;
            }
            word[clauses] = itsWord;
            n[clauses] = itsN;
            from[clauses] = size;
            clauses++;
            if (itsWord == BORED) {
                bored = itsN;
            }
        }

        void put(int part) {
            if (size < SIGNS) {
                code[size] = part;
                size++;
            }
        }

        /** A TEST is held as its letter and the numbers from low to high that it takes. */
        void putTest(int letter, int low, int high) {
            asksStep = asksStep || letter == S;
            put((letter << 7 | low) << 7 | high);
        }

        void copyFrom(Town other) {
            System.arraycopy(other.word, 0, word, 0, CLAUSES);
            System.arraycopy(other.n, 0, n, 0, CLAUSES);
            System.arraycopy(other.from, 0, from, 0, CLAUSES);
            System.arraycopy(other.code, 0, code, 0, SIGNS);
            clauses = other.clauses;
            size = other.size;
            bored = other.bored;
            asksStep = other.asksStep;
        }

        /** Lays LURE of one for each CELL, and how FAR that is, ready in lure and fars. */
        void weigh(Folk folk, int person, int phase) {
            for (int c = 0; c < CELLS; c++) {
                lure[c] = LURE_WITHOUT;
                fars[c] = far(folk.cell[person], c);
            }
            for (int i = 0; i < clauses; i++) {
                int more = word[i] == HOPE ? n[i] : -n[i];
                int cells = word[i] == BORED ? 0 : whereHolds(i, folk, person, phase);
                for (int c = 0; c < CELLS; c++) {
                    lure[c] += (cells >> c & 1) * more;
                }
            }
        }

        private int whereHolds(int clause, Folk folk, int person, int phase) {
            int end = clause + 1 < clauses ? from[clause + 1] : size;
            int top = 0;
            for (int i = from[clause]; i < end; i++) {
                int part = code[i];
                if (part >= 0 && top < MOST_WAITING) {
                    waiting[top] = whereTest(part, folk, person, phase);
                    top++;
                } else if (part == NOT && top > 0) {
                    waiting[top - 1] ^= ALL_CELLS;
                } else if (top > 1) {
                    top--;
                    int both = waiting[top - 1] & waiting[top];
                    int either = waiting[top - 1] | waiting[top];
                    waiting[top - 1] = part == AND ? both : either;
                }
            }
            return top > 0 ? waiting[top - 1] : 0;
        }

        private int whereTest(int test, Folk folk, int person, int phase) {
            int low = test >> 7 & 127;
            int high = test & 127;
            int letter = test >> 14;
            if (letter == F || letter == C) {
                int cells = 0;
                for (int c = 0; c < CELLS; c++) {
                    int value = letter == F ? fars[c] : c;
                    cells |= value >= low && value <= high ? 1 << c : 0;
                }
                return cells;
            }
            int value = phase;
            if (letter == P) {
                value = person;
            } else if (letter == K) {
                value = folk.kind[person];
            } else if (letter == V) {
                value = folk.v[person];
            }
            return value >= low && value <= high ? ALL_CELLS : 0;
        }
    }

    /**
     * Reads THE TAPE sign by sign into a draft, so that by a FAULT the TOWN that held is untouched.
     * It never goes past a sign that cannot stand there: where it stops is the FAULT.
     */
    private static final class Reader {
        static final int MOST_OPEN = 5;
        /** Stands below what joins within it; the rest of what is pending goes by how firmly it binds. */
        private static final int OPEN = 0, OR = 1, AND = 2, NOT = 3;
        /** 5 open ! and (, and at most a | and a & in each ( and outside. */
        private static final int MOST_PENDING = 17;

        final Town draft = new Town();
        int at = 0;
        private final Rows tape = new Rows(SIGNS);
        private final int[] pending = new int[MOST_PENDING];
        private int top = 0;
        private int open = 0;
        private int brackets = 0;

        boolean reads(Rows signs) {
            tape.copyFrom(signs);
            draft.clear();
            at = 0;
            for (int i = 1; i <= Town.CLAUSES; i++) {
                if (!readsClause()) {
                    return false;
                }
                if (at == tape.size) {
                    return true;
                }
                if (i == Town.CLAUSES || !takes(';')) {
                    return false;
                }
            }
            return false;
        }

        private boolean readsClause() {
            int word = next() == 'b' ? Town.BORED : next() == 'h' ? Town.HOPE : Town.SHY;
            if (!takesAll(word == Town.BORED ? "bored " : word == Town.HOPE ? "hope " : "shy ")) {
                return false;
            }
            int n = takesNumber();
            if (n < 0) {
                return false;
            }
            draft.begin(word, n);
            return word == Town.BORED || takes(' ') && readsExpression();
        }

        private boolean readsExpression() {
            top = 0;
            open = 0;
            brackets = 0;
            for (int i = 0; i < SIGNS; i++) {
                takesOpening();
                if (!readsTest()) {
                    return false;
                }
                takesClosing();
                if (takes('&')) {
                    settle(AND);
                    push(AND);
                } else if (takes('|')) {
                    settle(OR);
                    push(OR);
                } else {
                    settle(OR);
                    return brackets == 0;
                }
            }
            return false;
        }

        private void takesOpening() {
            for (int i = 0; i < MOST_OPEN && open < MOST_OPEN; i++) {
                if (takes('!')) {
                    push(NOT);
                } else if (takes('(')) {
                    push(OPEN);
                    brackets++;
                } else {
                    return;
                }
                open++;
            }
        }

        private void takesClosing() {
            for (int i = 0; i < MOST_OPEN && brackets > 0 && takes(')'); i++) {
                settle(OR);
                top--;
                open--;
                brackets--;
            }
        }

        private void push(int one) {
            if (top < MOST_PENDING) {
                pending[top] = one;
                top++;
            }
        }

        /** Puts what is pending and binds at least so firmly behind its parts. */
        private void settle(int least) {
            for (int i = 0; i < MOST_PENDING && top > 0 && pending[top - 1] >= least; i++) {
                top--;
                if (pending[top] == NOT) {
                    draft.put(Town.NOT);
                    open--;
                } else {
                    draft.put(pending[top] == AND ? Town.AND : Town.OR);
                }
            }
        }

        private boolean readsTest() {
            int letter = takesOneOf("pkvfcs");
            if (letter < 0) {
                return false;
            }
            int sign = takesOneOf("<=>");
            if (sign < 0) {
                return false;
            }
            int n = takesNumber();
            if (n < 0) {
                return false;
            }
            if (sign == 1) {
                draft.putTest(letter, n, n);
            } else if (sign == 2) {
                draft.putTest(letter, n + 1, 127);
            } else {
                // Nothing is below 0: then from 1 to 0 no number is.
                draft.putTest(letter, n == 0 ? 1 : 0, Math.max(n - 1, 0));
            }
            return true;
        }

        /** -1: there is no number here; a 0 is whole, for none may stand ahead of another. */
        private int takesNumber() {
            int tens = takesOneOf("0123456789");
            if (tens <= 0) {
                return tens;
            }
            int ones = takesOneOf("0123456789");
            return ones < 0 ? tens : 10 * tens + ones;
        }

        private boolean takesAll(String word) {
            for (int i = 0; i < word.length(); i++) {
                if (!takes(word.charAt(i))) {
                    return false;
                }
            }
            return true;
        }

        private int takesOneOf(String signs) {
            int sign = next();
            int which = sign < 0 ? -1 : signs.indexOf((char) sign);
            if (which >= 0) {
                at++;
            }
            return which;
        }

        private boolean takes(char sign) {
            boolean is = next() == sign;
            if (is) {
                at++;
            }
            return is;
        }

        private int next() {
            return at >= 0 && at < tape.size ? tape.first[at] : -1;
        }
    }

    /** All that THE IMAGE keeps. Of TOWNS just the newest is: no older one ever holds again but by undo. */
    private static final class Scene {
        final Rows tape = new Rows(SIGNS);
        final Town town = new Town();
        int towns = 0;
        final Folk folk = new Folk();
        final Carpet carpet = new Carpet();
        final Rows walk = new Rows(10);
        final Rows seen = new Rows(5);
        final Rows plan = new Rows(8);
        final Rows book = new Rows(8);

        void copyFrom(Scene other) {
            tape.copyFrom(other.tape);
            town.copyFrom(other.town);
            towns = other.towns;
            folk.copyFrom(other.folk);
            carpet.copyFrom(other.carpet);
            walk.copyFrom(other.walk);
            seen.copyFrom(other.seen);
            plan.copyFrom(other.plan);
            book.copyFrom(other.book);
        }
    }

    /**
     * STEPS that go on a copy, so that what is asked changes nothing.
     * What each of PERSONS tugs is reckoned once for each phase, as long as that one stays as it is.
     */
    private static final class Course {
        static final int STEP_GOES = 0, ONE_IS_AWAY = 1, ONE_IS_NOT = 2, CARPET_IS_PUT = 3;
        /** STEP modulo this is all that a TEST sees of it. */
        private static final int PHASES = 10;
        private static final int[] STRIDES_TO_NEXT = {-4, -1, 1, 4};

        final Folk folk = new Folk();
        final Carpet carpet = new Carpet();
        private final Carpet start = new Carpet();
        private final Town town = new Town();
        private final int[] tugs = new int[PERSONS * PHASES * CELLS];
        /** Of each of PERSONS the phases, as bits, whose tugs stand. */
        private final int[] reckoned = new int[PERSONS];

        void begin(Scene scene) {
            folk.copyFrom(scene.folk);
            town.copyFrom(scene.town);
            start.copyFrom(scene.carpet);
            for (int person = 0; person < PERSONS; person++) {
                reckoned[person] = 0;
            }
            again();
        }

        /** THE CARPET is as it was by begin; PERSONS stay as they were put. */
        void again() {
            carpet.copyFrom(start);
        }

        void putPerson(int person, int cell) {
            folk.cell[person] = cell;
            reckoned[person] = 0;
        }

        void makePerson(int person, int v) {
            folk.v[person] = v;
            reckoned[person] = 0;
        }

        void follow(int what, int n) {
            if (what == STEP_GOES) {
                go(UNSTOPPED);
            } else if (what == CARPET_IS_PUT) {
                carpet.cell = n;
            } else {
                folk.setAway(n, what == ONE_IS_AWAY);
            }
        }

        void goSteps(int n) {
            for (int i = 0; i < n; i++) {
                go(UNSTOPPED);
            }
        }

        int comesTo(int cell, int most) {
            for (int steps = 0; steps <= most; steps++) {
                if (carpet.cell == cell) {
                    return steps;
                }
                go(UNSTOPPED);
            }
            return NOT_BY_THEN;
        }

        boolean isAsSeen(Rows seen) {
            int last = 0;
            for (int i = 0; i < seen.size; i++) {
                last = Math.max(last, seen.second[i]);
            }
            again();
            for (int steps = 0; steps <= last; steps++) {
                for (int i = 0; i < seen.size; i++) {
                    if (seen.second[i] == steps && seen.first[i] != carpet.cell) {
                        return false;
                    }
                }
                go(UNSTOPPED);
            }
            return true;
        }

        void go(int mostLain) {
            reckon();
            int best = carpet.cell;
            int greatest = draw(best);
            for (int i = 0; i < STRIDES_TO_NEXT.length; i++) {
                int cell = carpet.cell + STRIDES_TO_NEXT[i];
                // A stride may lead out of the town, or from the end of a ROW to the next one.
                if (!isCell(cell) || far(carpet.cell, cell) != 1) {
                    continue;
                }
                int draw = draw(cell);
                if (draw > greatest || draw == greatest && cell < best) {
                    greatest = draw;
                    best = cell;
                }
            }
            carpet.cell = best;
            if (carpet.lain[best] < mostLain) {
                carpet.lain[best]++;
            }
            carpet.step++;
        }

        int lure(int person, int cell) {
            town.weigh(folk, person, phase());
            return town.lure[cell];
        }

        /** DRAW of a CELL, once reckon has been ahead of it. */
        int draw(int cell) {
            int draw = -town.bored * carpet.lain[cell];
            for (int person = 0; person < folk.size; person++) {
                draw += tug(person, cell);
            }
            return draw;
        }

        /** TUG of one for a CELL, once reckon has been ahead of it. */
        int tug(int person, int cell) {
            if (folk.isAway(person)) {
                return 0;
            }
            int more = folk.kind[person] == TOLD ? folk.line[person * BEATS + carpet.step % BEATS] : 0;
            return tugs[(person * PHASES + phase()) * CELLS + cell] + more;
        }

        /** Makes the tugs of all who are not AWAY stand for the STEP that is. */
        void reckon() {
            int phase = phase();
            for (int person = 0; person < folk.size; person++) {
                if (folk.isAway(person) || (reckoned[person] >> phase & 1) == 1) {
                    continue;
                }
                town.weigh(folk, person, phase);
                int row = (person * PHASES + phase) * CELLS;
                for (int c = 0; c < CELLS; c++) {
                    tugs[row + c] = tugBut(folk.kind[person], town.lure[c], folk.v[person], town.fars[c]);
                }
                reckoned[person] |= 1 << phase;
            }
        }

        private int phase() {
            return town.asksStep ? carpet.step % PHASES : 0;
        }

        /** TUG but for the LINE of a TOLD one, which goes by another beat than the phases. */
        private static int tugBut(int kind, int lure, int v, int far) {
            switch (kind) {
                case HOPER:
                    return lure + v - far;
                case WAITER:
                    return far == 0 ? 2 * (lure + v) : lure + v - far;
                case SWEEP:
                    return far == 1 ? lure : 0;
                case KING:
                    return far == 0 ? v : far == 1 ? lure : 0;
                case CROWD:
                case TOLD:
                    return (lure - 2 * far) / 2;
                default:
                    return lure - 2 * far;
            }
        }
    }

    /** What PERSONS do, body by body, each found from its KIND upward. */
    private static final class Acts {
        static final int KINDS_OF_ACTS = 3, MOST_KEPT = 20;
        private static final int STANDS = 0, LOOKS = 1, TELLS = 2;
        /** For each KIND its stands, looks, tells; 0: it has none, the next KIND above tells. */
        private static final int[] BODIES = {1, 2, 3, 11, 0, 0, 0, 21, 0, 0, 0, 31, 0, 0, 41, 51, 0, 0, 0, 61, 0};
        /** The longest way is WAITER's tells, 3, 2, 11, 1; nothing goes so deep as this. */
        private static final int DEEPEST = 12;

        final int[] bodies = new int[MOST_KEPT];
        int ran = 0;
        private int kind = 0;
        private int v = 0;
        private int number = 0;

        int inTrace() {
            return Math.min(ran, MOST_KEPT);
        }

        int start(Folk folk, int person, int act, int x) {
            kind = folk.kind[person];
            v = folk.v[person];
            number = person;
            return run(act, kind, x, 0);
        }

        private int run(int act, int fromKind, int x, int depth) {
            if (depth > DEEPEST) {
                return 0;
            }
            int at = fromKind;
            for (int i = 0; i < KINDS && BODIES[at * KINDS_OF_ACTS + act] == 0; i++) {
                at = ABOVE[at];
            }
            int body = BODIES[at * KINDS_OF_ACTS + act];
            note(body);
            switch (body) {
                case 1:
                    return x + number;
                case 2:
                    return run(STANDS, kind, x, depth + 1) - v;
                case 3:
                    return run(LOOKS, kind, x, depth + 1) * 2;
                case 11:
                    return run(STANDS, ABOVE[at], x * 3, depth + 1);
                case 21:
                    return -run(LOOKS, ABOVE[at], x, depth + 1);
                case 31:
                    return run(TELLS, ABOVE[at], x, depth + 1) ^ 7;
                case 41:
                    int above = run(TELLS, ABOVE[at], x - 1, depth + 1);
                    return above + run(STANDS, kind, 2, depth + 1);
                case 51:
                    return run(STANDS, ABOVE[at], x, depth + 1) ^ number;
                default:
                    return run(LOOKS, ABOVE[at], x, depth + 1) + v;
            }
        }

        private void note(int body) {
            if (ran < MOST_KEPT) {
                bodies[ran] = body;
            }
            ran++;
        }
    }
}
