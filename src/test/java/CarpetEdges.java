/** The boundary cases that the document names of PERSONS, what they draw, and THE CARPET: promises 4 to 11. */
public final class CarpetEdges {
    private static final int LOW = Edge.LOW, HIGH = Edge.HIGH;
    private static final int NONE = Edge.NONE, BAD = Edge.BAD, STATE = Edge.STATE, FULL = Edge.FULL;
    private static final int NO_SUCH = Edge.NO_SUCH;
    private static final int[] NO_DIGITS = {LOW, -1, 10, HIGH};
    /** All KINDS stand in CELL 0, then come the CELLS that are 1, 2 and 6 FAR. */
    private static final int[] AT_FARS = {0, 1, 2, 15};
    /** The rooms beside each CELL, written out: no way leads from a ROW's end to the next ROW. */
    private static final int[][] NEXT = {
        {1, 4}, {0, 2, 5}, {1, 3, 6}, {2, 7}, {0, 5, 8}, {1, 4, 6, 9}, {2, 5, 7, 10}, {3, 6, 11},
        {4, 9, 12}, {5, 8, 10, 13}, {6, 9, 11, 14}, {7, 10, 15}, {8, 13}, {9, 12, 14}, {10, 13, 15}, {11, 14}};

    private CarpetEdges() {
    }

    public static void main(String[] args) {
        Edge.promise(4);
        persons();
        Edge.promise(5);
        whats();
        fars();
        tugs();
        halves();
        lures();
        tests();
        truths();
        deepest();
        Edge.promise(6);
        lines();
        Edge.promise(7);
        moves();
        Edge.promise(8);
        aways();
        Edge.promise(9);
        lays();
        Edge.promise(10);
        told();
        draws();
        Edge.promise(11);
        passes();
        steps();
        ties();
        lain();
        Edge.end(4, 11);
    }

    private static void persons() {
        AheadOfPerson x = new AheadOfPerson();
        Edge.is("all the least: kind 0, v 0, cell 0", x.person(0, 0, 0), 0);
        Edge.is("all the greatest: kind 6, v 9, cell 15", x.person(6, 9, 15), 1);
        Edge.is("KIND 0", x.of(0, 0), 0);
        Edge.is("v 0", x.of(0, 1), 0);
        Edge.is("CELL 0", x.of(0, 2), 0);
        Edge.is("KIND 6", x.of(1, 0), 6);
        Edge.is("v 9", x.of(1, 1), 9);
        Edge.is("CELL 15", x.of(1, 2), 15);
        Edge.is("not AWAY at first", x.of(1, 3), 0);
        for (int k = 0; k < 4; k++) {
            Edge.is("LINE is 0 at first, " + k, x.line(1, k, 9), 0);
        }
        for (int i = 2; i < 6; i++) {
            Edge.is("PERSON " + i, x.person(i, i, i), i);
        }
        Edge.is("the seventh", x.person(0, 0, 0), FULL);
        Edge.is("and again", x.person(6, 9, 15), FULL);
        for (int kind : new int[] {LOW, -1, 7, HIGH}) {
            Edge.same("kind " + kind, Edge::rich, y -> y.person(kind, 0, 0), NONE);
            Edge.same("NONE ahead of BAD: kind " + kind, Edge::rich, y -> y.person(kind, 10, 0), NONE);
            Edge.same("NONE ahead of FULL: kind " + kind, Edge::full, y -> y.person(kind, 0, 0), NONE);
        }
        for (int cell : Edge.NO_CELLS) {
            Edge.same("cell " + cell, Edge::rich, y -> y.person(0, 0, cell), NONE);
            Edge.same("NONE ahead of BAD: cell " + cell, Edge::rich, y -> y.person(0, -1, cell), NONE);
            Edge.same("NONE ahead of FULL: cell " + cell, Edge::full, y -> y.person(0, 0, cell), NONE);
        }
        for (int v : NO_DIGITS) {
            Edge.same("v " + v, Edge::rich, y -> y.person(0, v, 0), BAD);
            Edge.same("BAD ahead of FULL: v " + v, Edge::full, y -> y.person(0, v, 0), BAD);
        }
        Edge.same("FULL", Edge::full, y -> y.person(0, 0, 0), FULL);
        AheadOfPerson y = Edge.rich();
        Edge.is("behind refusals the last one comes, too", y.person(0, 7, 0) + y.person(0, 0, 0), 5 + FULL);
    }

    private static void whats() {
        for (int what : new int[] {LOW, LOW + 9, LOW + 10, LOW + 29, LOW + 30, -1, 4, 9, 26, 29, 46, HIGH}) {
            Edge.same("what " + what, Edge::rich, y -> y.of(0, what), NO_SUCH);
        }
        for (int person : new int[] {LOW, -1, 5, 6, HIGH}) {
            Edge.same("person " + person + " of five", Edge::rich, y -> y.of(person, 0), NO_SUCH);
        }
        Edge.is("the last of six", Edge.full().of(5, 0), 5);
        Edge.is("person 6 of six", Edge.full().of(6, 0), NO_SUCH);
        Edge.is("no PERSONS at all", new AheadOfPerson().of(0, 3), NO_SUCH);
        AheadOfPerson x = Edge.made("hope 1 c=0;hope 2 c=15", 4, 9, 15);
        Edge.is("what 0", x.of(0, 0), 4);
        Edge.is("what 1", x.of(0, 1), 9);
        Edge.is("what 2", x.of(0, 2), 15);
        Edge.is("what 3", x.of(0, 3), 0);
        Edge.is("what 10, LURE for CELL 0", x.of(0, 10), 7);
        Edge.is("what 25, LURE for CELL 15", x.of(0, 25), 8);
        Edge.is("what 30, TUG for CELL 0", x.of(0, 30), 7 + 9 - 6);
        Edge.is("what 45, TUG for CELL 15", x.of(0, 45), 2 * (8 + 9));
        x.away(0, true);
        Edge.is("what 3 of one AWAY", x.of(0, 3), 1);
    }

    private static void fars() {
        int[][] fars = {
            {0, 0, 1, 2, 3, 1, 2, 3, 4, 2, 3, 4, 5, 3, 4, 5, 6},
            {3, 3, 2, 1, 0, 4, 3, 2, 1, 5, 4, 3, 2, 6, 5, 4, 3},
            {5, 2, 1, 2, 3, 1, 0, 1, 2, 2, 1, 2, 3, 3, 2, 3, 4},
            {12, 3, 4, 5, 6, 2, 3, 4, 5, 1, 2, 3, 4, 0, 1, 2, 3},
            {15, 6, 5, 4, 3, 5, 4, 3, 2, 4, 3, 2, 1, 3, 2, 1, 0}};
        for (int[] row : fars) {
            AheadOfPerson x = Edge.made("", 0, 0, row[0]);
            for (int c = 0; c < 16; c++) {
                Edge.is("how FAR " + row[0] + " is from " + c, (6 - x.of(0, 30 + c)) / 2, row[1 + c]);
            }
        }
    }

    private static void tugRow(String town, int kind, int v, int... tugs) {
        AheadOfPerson x = Edge.made(town, kind, v, 0);
        for (int i = 0; i < AT_FARS.length; i++) {
            String which = "TUG of KIND " + kind + ", v " + v + ", for CELL " + AT_FARS[i] + ", '" + town + "'";
            Edge.is(which, x.of(0, 30 + AT_FARS[i]), tugs[i]);
        }
        x.line(0, 0, 9);
        x.away(0, true);
        for (int cell : AT_FARS) {
            String which = "TUG of KIND " + kind + ", v " + v + ", AWAY, for CELL " + cell + ", '" + town + "'";
            Edge.is(which, x.of(0, 30 + cell), 0);
        }
    }

    private static void tugs() {
        tugRow("", 0, 9, 6, 4, 2, -6);
        tugRow("", 1, 0, 6, 5, 4, 0);
        tugRow("", 1, 9, 15, 14, 13, 9);
        tugRow("", 2, 9, 0, 6, 0, 0);
        tugRow("", 3, 9, 3, 2, 1, -3);
        tugRow("", 4, 0, 12, 5, 4, 0);
        tugRow("", 4, 9, 30, 14, 13, 9);
        tugRow("", 5, 0, 0, 6, 0, 0);
        tugRow("", 5, 9, 9, 6, 0, 0);
        tugRow("", 6, 9, 3, 2, 1, -3);
        String below = "shy 99 c<16";
        tugRow(below, 0, 0, -93, -95, -97, -105);
        tugRow(below, 1, 9, -84, -85, -86, -90);
        tugRow(below, 2, 0, 0, -93, 0, 0);
        tugRow(below, 3, 0, -46, -47, -48, -52);
        tugRow(below, 4, 9, -168, -85, -86, -90);
        tugRow(below, 5, 9, 9, -93, 0, 0);
        tugRow(below, 6, 0, -46, -47, -48, -52);
        // LURE and v are 0 together, so twice that is 0, too.
        tugRow("shy 15 c<16", 4, 9, 0, -1, -2, -6);
        tugRow("shy 16 c<16", 4, 9, -2, -2, -3, -7);
    }

    private static void halves() {
        int[] halves = {-1, -1, 0, 0, 0, 1, 1};
        for (int tug = -3; tug <= 3; tug++) {
            AheadOfPerson x = Edge.made("shy " + (6 - tug) + " c=0", 3, 0, 0, 6, 0, 0);
            Edge.is("CROWD: the half of " + tug + ", cut toward 0", x.of(0, 30), halves[tug + 3]);
            Edge.is("TOLD: the half of " + tug + ", cut toward 0", x.of(1, 30), halves[tug + 3]);
            x.line(1, 0, 9);
            Edge.is("TOLD: its LINE is more than the half of " + tug, x.of(1, 30), halves[tug + 3] + 9);
        }
        AheadOfPerson x = Edge.made("", 6, 0, 0);
        for (int k = 0; k < 4; k++) {
            x.line(0, k, k + 1);
        }
        int[] more = {1, 2, 3, 4, 1, 2, 3, 4, 1};
        for (int step = 0; step < more.length; step++) {
            Edge.is("TOLD: its LINE at STEP " + step, x.of(0, 30), 3 + more[step]);
            x.pass(1);
        }
        x = Edge.old();
        x.person(6, 0, 0);
        x.line(0, 3, 8);
        Edge.is("TOLD: its LINE at STEP 9999", x.of(0, 30), 3 + 8);
    }

    private static void lures() {
        String hopes = "hope 99 c=5;".repeat(8);
        AheadOfPerson x = Edge.made(hopes.substring(0, hopes.length() - 1), 4, 9, 5);
        Edge.is("LURE by all hope that one TOWN may have", x.of(0, 15), 6 + 8 * 99);
        Edge.is("TUG by it, twice", x.of(0, 35), 2 * (6 + 8 * 99 + 9));
        String shys = "shy 99 c=5;".repeat(9);
        x = Edge.made(shys.substring(0, shys.length() - 1), 4, 0, 5);
        Edge.is("LURE by all that it may be shy", x.of(0, 15), 6 - 9 * 99);
        Edge.is("TUG by it, below 0 twice", x.of(0, 35), 2 * (6 - 9 * 99));
        x = Edge.made("hope 0 c=5;shy 0 c=6;hope 6 c=7;shy 6 c=8;shy 7 c=9", 0, 0, 0);
        Edge.is("LURE by hope 0", x.of(0, 15), 6);
        Edge.is("LURE by shy 0", x.of(0, 16), 6);
        Edge.is("LURE 12", x.of(0, 17), 12);
        Edge.is("LURE 0", x.of(0, 18), 0);
        Edge.is("LURE below 0", x.of(0, 19), -1);
        x.away(0, true);
        Edge.is("LURE of one AWAY", x.of(0, 17), 12);
        x = Edge.made("hope 5 c=1;shy 3 c=1;hope 10 c=1;shy 20 c=1", 0, 0, 0);
        Edge.is("hope and shy together", x.of(0, 11), 6 + 15 - 23);
        x = Edge.made("bored 50;hope 5 c=1", 0, 0, 0);
        Edge.is("bored is no hope", x.of(0, 10), 6);
    }

    /** Each TEST with numbers that are just below, just, and just above what it asks for. */
    private static void test(char letter, int person, int cell, int step, int value) {
        for (int n : new int[] {0, value - 1, value, value + 1, 99}) {
            if (n >= 0 && (n != 0 || value > 1)) {
                holds(letter + "<" + n, person, cell, step, value < n);
                holds(letter + "=" + n, person, cell, step, value == n);
                holds(letter + ">" + n, person, cell, step, value > n);
            }
        }
        if (value <= 1) {
            holds(letter + "<0", person, cell, step, false);
            holds(letter + "=0", person, cell, step, value == 0);
            holds(letter + ">0", person, cell, step, value > 0);
        }
    }

    private static void holds(String test, int person, int cell, int step, boolean want) {
        AheadOfPerson x = Edge.made("hope 1 " + test, 0, 0, 0, 1, 1, 3, 3, 4, 5, 4, 5, 10, 5, 8, 12, 6, 9, 15);
        for (int i = 0; i < step; i++) {
            x.pass(1);
        }
        String which = test + " of PERSON " + person + " and CELL " + cell + " at STEP " + step;
        Edge.is(which, x.of(person, 10 + cell) - 6, want ? 1 : 0);
    }

    private static void tests() {
        test('p', 0, 0, 0, 0);
        test('p', 1, 0, 0, 1);
        test('p', 5, 0, 0, 5);
        test('k', 0, 0, 0, 0);
        test('k', 5, 0, 0, 6);
        test('v', 0, 0, 0, 0);
        test('v', 5, 0, 0, 9);
        test('f', 0, 0, 0, 0);
        test('f', 0, 4, 0, 1);
        test('f', 0, 15, 0, 6);
        test('f', 5, 0, 0, 6);
        test('c', 0, 0, 0, 0);
        test('c', 1, 15, 0, 15);
        test('s', 0, 0, 0, 0);
        test('s', 0, 0, 9, 9);
        test('s', 0, 0, 10, 0);
        test('s', 0, 0, 11, 1);
        test('s', 0, 0, 19, 9);
        test('s', 0, 0, 20, 0);
        AheadOfPerson x = Edge.old();
        Edge.town(x, "hope 1 s=9;hope 2 s<9");
        x.person(0, 0, 0);
        Edge.is("s at STEP 9999", x.of(0, 10), 7);
    }

    /** In an expression, T stands for a TEST that holds, and F for one that does not. */
    private static void truth(String expression, int want) {
        String e = expression.replace("T", "p=0").replace("F", "p=1");
        Edge.is(expression, Edge.made("hope 1 " + e, 0, 0, 0).of(0, 10) - 6, want);
    }

    private static void truths() {
        truth("T", 1);
        truth("F", 0);
        for (int i = 1; i <= 5; i++) {
            truth("!".repeat(i) + "T", (i + 1) % 2);
            truth("!".repeat(i) + "F", i % 2);
            truth("(".repeat(i) + "T" + ")".repeat(i), 1);
            truth("(".repeat(i) + "F" + ")".repeat(i), 0);
        }
        truth("T|T", 1);
        truth("T|F", 1);
        truth("F|T", 1);
        truth("F|F", 0);
        truth("T&T", 1);
        truth("T&F", 0);
        truth("F&T", 0);
        truth("F&F", 0);
        truth("T|T&F", 1);
        truth("(T|T)&F", 0);
        truth("F&F|T", 1);
        truth("F&(F|T)", 0);
        truth("F&T|F&T|T&T", 1);
        truth("F&T|T&F|F&T", 0);
        truth("T&T&T&T&T&F", 0);
        truth("F|F|F|F|F|T", 1);
        truth("!F&F", 0);
        truth("!(F&F)", 1);
        truth("!T|T", 1);
        truth("!(T|T)", 0);
        truth("T&!T", 0);
        truth("F|!F", 1);
        truth("!F&!F", 1);
        truth("!F&!!F", 0);
        truth("!(!(!T))", 0);
        truth("!(!(!F))", 1);
        truth("!!!!(T|F)", 1);
        truth("!!!!(T&F)", 0);
        truth("!(!(T&F)&!(F|F))", 0);
        truth("!(!(T&F)&!(F|T))", 1);
        truth("!!!!!T|!!!!!F", 1);
        truth("!!!!!F&!!!!!T", 0);
    }

    /** As much as can wait: a | and an & outside and in each of 5 of ( that are open. */
    private static void deepest() {
        String ands = "c=15|p=0&(c=14|p=0&(c=13|p=0&(c=12|p=0&(c=11|p=0&(c=10|p=0&c=9)))))";
        String none = "c=15|p=1&(c=14|p=0&(c=13|p=0&(c=12|p=0&(c=11|p=0&(c=10|p=0&c=9)))))";
        String nots = "p=1|p=0&!(c=1|p=0&!(c=2|p=0&!c=3))";
        AheadOfPerson x = Edge.made("hope 1 " + ands, 0, 0, 0);
        AheadOfPerson y = Edge.made("hope 1 " + none, 0, 0, 0);
        AheadOfPerson z = Edge.made("hope 1 " + nots, 0, 0, 0);
        for (int c = 0; c < 16; c++) {
            Edge.is("5 of ( with & and |, CELL " + c, x.of(0, 10 + c) - 6, c >= 9 ? 1 : 0);
            Edge.is("5 of ( with & and |, the first & does not hold, CELL " + c, y.of(0, 10 + c) - 6, c == 15 ? 1 : 0);
            Edge.is("5 of ! and ( with & and |, CELL " + c, z.of(0, 10 + c) - 6, c == 1 || c == 3 ? 0 : 1);
        }
    }

    private static void lines() {
        AheadOfPerson x = Edge.made("", 6, 0, 0, 6, 0, 0);
        for (int k = 0; k < 4; k++) {
            Edge.is("0 at first, k " + k, x.line(0, k, 9), 0);
            Edge.is("9 is taken, k " + k, x.line(0, k, 0), 9);
            Edge.is("0 is taken, k " + k, x.line(0, k, k + 1), 0);
        }
        for (int k = 0; k < 4; k++) {
            Edge.is("each k has its own, " + k, x.line(0, k, 0), k + 1);
            Edge.is("and each one his own LINE, k " + k, x.line(1, k, 0), 0);
        }
        x.line(1, 3, 4);
        x.away(1, true);
        Edge.is("of one AWAY, too", x.line(1, 3, 5), 4);
        for (int n : NO_DIGITS) {
            Edge.same("n " + n, Edge::rich, y -> y.line(3, 0, n), BAD);
            Edge.same("n " + n + " at the last k", Edge::rich, y -> y.line(3, 3, n), BAD);
            Edge.same("BAD ahead of STATE: n " + n, Edge::rich, y -> y.line(0, 0, n), BAD);
        }
        for (int k : new int[] {LOW, -1, 4, HIGH}) {
            Edge.same("k " + k, Edge::rich, y -> y.line(3, k, 0), NONE);
            Edge.same("NONE ahead of BAD: k " + k, Edge::rich, y -> y.line(3, k, 10), NONE);
            Edge.same("NONE ahead of STATE: k " + k, Edge::rich, y -> y.line(0, k, 0), NONE);
        }
        for (int person : new int[] {LOW, -1, 5, 6, HIGH}) {
            Edge.same("person " + person + " of five", Edge::rich, y -> y.line(person, 0, 0), NONE);
            Edge.same("NONE ahead of BAD: person " + person, Edge::rich, y -> y.line(person, 0, 10), NONE);
        }
        for (int kind = 0; kind < 6; kind++) {
            int k = kind;
            Edge.same("STATE: KIND " + k, () -> Edge.made("", k, 5, 5), y -> y.line(0, 0, 1), STATE);
        }
    }

    private static void moves() {
        AheadOfPerson x = Edge.made("", 0, 0, 7);
        Edge.is("to CELL 0", x.move(0, 0), 7);
        Edge.is("to CELL 15", x.move(0, 15), 0);
        Edge.is("to its own CELL", x.move(0, 15), 15);
        Edge.is("and it is there", x.of(0, 2), 15);
        x.away(0, true);
        Edge.is("one who is AWAY", x.move(0, 3), 15);
        Edge.is("is still AWAY", x.of(0, 3), 1);
        for (int cell : Edge.NO_CELLS) {
            Edge.same("cell " + cell, Edge::rich, y -> y.move(0, cell), NONE);
        }
        for (int person : new int[] {LOW, -1, 5, 6, HIGH}) {
            Edge.same("person " + person + " of five", Edge::rich, y -> y.move(person, 0), NONE);
        }
        AheadOfPerson y = Edge.full();
        Edge.is("the last of six", y.move(5, 0), 6);
        Edge.is("person 6 of six", y.move(6, 0), NONE);
        Edge.is("no PERSONS at all", new AheadOfPerson().move(0, 0), NONE);
    }

    private static void aways() {
        AheadOfPerson x = Edge.made("", Edge.six(0, 0, 0));
        for (int i = 0; i < 6; i++) {
            Edge.is("not at first, and not then: " + i, x.away(i, false), 0);
            Edge.is("AWAY: " + i, x.away(i, true), 0);
            Edge.is("AWAY again: " + i, x.away(i, true), 1);
            Edge.is("it was AWAY: " + i, x.away(i, i == 0), 1);
            Edge.is("it is, or is not: " + i, x.of(i, 3), i == 0 ? 1 : 0);
        }
        Edge.is("the first is still AWAY", x.of(0, 3), 1);
        for (int person : new int[] {LOW, -1, 5, 6, 31, 32, 33, HIGH}) {
            Edge.same("person " + person + " of five", Edge::rich, y -> y.away(person, true), NONE);
            Edge.same("person " + person + " of five, not AWAY", Edge::rich, y -> y.away(person, false), NONE);
        }
        Edge.is("person 6 of six", x.away(6, true), NONE);
        Edge.is("no PERSONS at all", new AheadOfPerson().away(0, true), NONE);
    }

    private static void lays() {
        AheadOfPerson x = new AheadOfPerson();
        x.pass(2);
        Edge.is("to CELL 15", x.lay(15), 1);
        Edge.is("to CELL 0", x.lay(0), 15);
        Edge.is("to its own CELL", x.lay(0), 0);
        Edge.is("it is there", x.told(2), 0);
        Edge.is("LAIN stays where it is put", x.told(30), 1);
        Edge.is("LAIN stays where it was", x.told(31), 1);
        Edge.is("LAIN stays in CELL 15", x.told(45), 0);
        Edge.is("STEP stays", x.told(0), 2);
        for (int cell : Edge.NO_CELLS) {
            Edge.same("cell " + cell, Edge::rich, y -> y.lay(cell), NONE);
        }
    }

    private static void told() {
        for (int what : new int[] {LOW, LOW + 9, LOW + 10, LOW + 29, LOW + 30, -1, 4, 9, 26, 29, 46, HIGH}) {
            Edge.same("what " + what, Edge::rich, y -> y.told(what), NO_SUCH);
        }
        for (int what : new int[] {0, 1, 2, 3, 10, 25, 30, 45}) {
            Edge.same("asking for what " + what, Edge::rich, y -> 0 * y.told(what), 0);
        }
        AheadOfPerson x = new AheadOfPerson();
        x.pass(16);
        Edge.is("it lay on all CELLS", x.told(3), 16);
        Edge.is("LAIN of CELL 0", x.told(30), 1);
        Edge.is("LAIN of CELL 15", x.told(45), 1);
        x.pass(1);
        Edge.is("and on no more than all", x.told(3), 16);
        Edge.is("STEP", x.told(0), 17);
        x = Edge.old();
        Edge.is("STEP 9999", x.told(0), 9999);
        Edge.is("LAIN 99", x.told(30), 99);
        Edge.is("it lay on one CELL", x.told(3), 1);
        Edge.is("BORED 0", x.told(1), 0);
        Edge.is("DRAW by BORED 0 times LAIN 99", x.told(10), 0);
        Edge.town(x, "bored 99");
        Edge.is("BORED 99", x.told(1), 99);
        Edge.is("DRAW by BORED 99 times LAIN 99", x.told(10), -9801);
        Edge.is("DRAW where it never lay", x.told(11), 0);
    }

    private static void draws() {
        AheadOfPerson x = Edge.made("bored 1", Edge.six(1, 9, 0));
        Edge.is("DRAW by six, for CELL 0", x.told(10), 6 * 15);
        Edge.is("DRAW by six, for CELL 15", x.told(25), 6 * 9);
        for (int i = 0; i < 5; i++) {
            x.away(i, true);
        }
        Edge.is("DRAW by the last alone", x.told(10), 15);
        x.away(5, true);
        Edge.is("DRAW by nobody", x.told(10), 0);
        x.pass(1);
        Edge.is("DRAW by nobody, where it lay", x.told(10), -1);
    }

    private static void passes() {
        AheadOfPerson x = Edge.corner();
        Edge.same("n 0", Edge::rich, y -> y.pass(0), 9);
        Edge.is("n 1", x.pass(1), 1);
        Edge.is("n 60", x.pass(60), 15);
        Edge.is("STEP behind these", x.told(0), 61);
        for (int n : new int[] {LOW, -1, 61, HIGH}) {
            Edge.same("n " + n, Edge::rich, y -> y.pass(n), BAD);
            Edge.same("BAD ahead of STATE: n " + n, Edge::old, y -> y.pass(n), BAD);
        }
    }

    private static AheadOfPerson at9939() {
        AheadOfPerson x = Edge.made("bored 0");
        for (int i = 0; i < 165; i++) {
            x.pass(60);
        }
        x.pass(39);
        return x;
    }

    private static void steps() {
        AheadOfPerson x = at9939();
        Edge.is("60 STEPS up to 9999", x.pass(60), 0);
        Edge.is("STEP is 9999", x.told(0), 9999);
        Edge.is("none at 9999", x.pass(0), 0);
        Edge.same("1 beyond 9999", Edge::old, y -> y.pass(1), STATE);
        Edge.same("60 beyond 9999", Edge::old, y -> y.pass(60), STATE);
        AheadOfPerson y = at9939();
        y.pass(1);
        Edge.is("60 from 9940", y.pass(60), STATE);
        Edge.is("STEP stays", y.told(0), 9940);
        Edge.is("59 from 9940", y.pass(59), 0);
        Edge.is("STEP 9999 again", y.told(0), 9999);
    }

    private static boolean isNext(int cell, int other) {
        for (int next : NEXT[cell]) {
            if (next == other) {
                return true;
            }
        }
        return false;
    }

    private static void ties() {
        for (int from = 0; from < 16; from++) {
            for (int to = 0; to < 16; to++) {
                AheadOfPerson x = Edge.made("bored 0;hope 99 c=" + to, 0, 0, from);
                x.lay(from);
                int want = isNext(from, to) ? to : from;
                Edge.is("from CELL " + from + " drawn to CELL " + to, x.pass(1), want);
                Edge.is("from CELL " + from + " drawn to CELL " + to + ": its LAIN", x.told(30 + want), 1);
                Edge.is("from CELL " + from + " drawn to CELL " + to + ": no other's", x.told(3), 1);
            }
            AheadOfPerson x = Edge.made("bored 0");
            x.lay(from);
            Edge.is("all alike: the first by number, from CELL " + from, x.pass(1), Math.min(from, NEXT[from][0]));
            // LAIN of its own CELL is 1, so all NEXT are alike and better.
            AheadOfPerson y = new AheadOfPerson();
            hold(y, from);
            Edge.is("all NEXT alike: the first by number, from CELL " + from, y.pass(1), NEXT[from][0]);
        }
        AheadOfPerson x = Edge.made("bored 0;hope 2 c=1|c=4", 0, 0, 0);
        Edge.is("its own CELL is as good as those NEXT", x.pass(1), 0);
        x = Edge.made("bored 0;hope 3 c=1|c=4", 0, 0, 0);
        Edge.is("those NEXT are better by 1", x.pass(1), 1);
        x = Edge.made("bored 0;hope 3 c=1;hope 4 c=4", 0, 0, 0);
        Edge.is("the last is better by 1", x.pass(1), 4);
        x = Edge.made("bored 0;shy 99 c=0;shy 98 c=1|c=4", 0, 0, 0);
        Edge.is("below 0: its own CELL by 1 behind", x.pass(1), 0);
        x = Edge.made("bored 0;shy 99 c=0;shy 96 c=1|c=4", 0, 0, 0);
        Edge.is("below 0: those NEXT by 1 ahead", x.pass(1), 1);
    }

    /** THE CARPET stays one STEP on a CELL, which draws it alone, and the one who draws is AWAY then. */
    private static void hold(AheadOfPerson x, int cell) {
        x.person(0, 0, cell);
        x.lay(cell);
        x.pass(1);
        x.away(0, true);
    }

    private static void lain() {
        AheadOfPerson x = Edge.made("bored 0");
        x.pass(60);
        x.pass(38);
        Edge.is("LAIN 98", x.told(30), 98);
        x.pass(1);
        Edge.is("LAIN 99", x.told(30), 99);
        x.pass(1);
        Edge.is("LAIN stays 99", x.told(30), 99);
        Edge.is("STEP goes on", x.told(0), 100);
        x.pass(60);
        Edge.is("LAIN stays 99 by many STEPS", x.told(30), 99);
        // CELL 0 draws 105 less its LAIN, CELL 1 draws 4: it would go there when LAIN is 102.
        x = Edge.made("bored 1;hope 99 c=0", 0, 0, 0);
        x.pass(60);
        Edge.is("by LAIN 99 it never leaves", x.pass(60), 0);
        Edge.is("LAIN of it", x.told(30), 99);
        Edge.is("DRAW of it", x.told(10), 6);
        x = Edge.made("bored 1;hope 96 c=0", 0, 0, 0);
        x.pass(60);
        Edge.is("by LAIN 99 it leaves", x.pass(40), 1);
        Edge.is("LAIN of the one it left", x.told(30), 99);
    }
}
