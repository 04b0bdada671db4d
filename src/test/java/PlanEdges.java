/** The boundary cases that the document names of PLANS, BOOKS, ACTS, THE IMAGE and counts: promises 25 to 34. */
public final class PlanEdges {
    private static final int LOW = Edge.LOW, HIGH = Edge.HIGH;
    private static final int NONE = Edge.NONE, BAD = Edge.BAD, FULL = Edge.FULL, NEVER = Edge.NEVER;
    private static final int STANDS = 0, LOOKS = 1, TELLS = 2;
    private static final int[] NO_PERSONS = {LOW, -1, 5, 6, HIGH};

    private PlanEdges() {
    }

    public static void main(String[] args) {
        Edge.promise(25);
        plan();
        Edge.promise(26);
        done();
        doneBeyond();
        Edge.promise(27);
        book();
        Edge.promise(28);
        looked();
        Edge.promise(29);
        noActs();
        acts();
        wraps();
        Edge.promise(30);
        trace();
        Edge.promise(31);
        as();
        Edge.promise(32);
        image();
        Edge.promise(33);
        undo();
        undone();
        Edge.promise(34);
        counts();
        Edge.end(25, 34);
    }

    private static void plan() {
        AheadOfPerson x = Edge.made("", Edge.six(0, 0, 0));
        Edge.is("what -1 by none", x.plan(-1, 0), 0);
        Edge.is("what 0, the other is not looked at: LOW", x.plan(0, LOW), 1);
        Edge.is("what 0, the other is not looked at: HIGH", x.plan(0, HIGH), 2);
        Edge.is("what 1, the first PERSON", x.plan(1, 0), 3);
        Edge.is("what 1, the last PERSON", x.plan(1, 5), 4);
        Edge.is("what 2, the first PERSON", x.plan(2, 0), 5);
        Edge.is("what 2, the last PERSON", x.plan(2, 5), 6);
        Edge.is("what 3, CELL 0", x.plan(3, 0), 7);
        Edge.is("what 3, CELL 15", x.plan(3, 15), 8);
        Edge.is("the ninth", x.plan(0, 0), FULL);
        Edge.is("how many there are", x.count(4), 8);
        Edge.is("what -1 by eight", x.plan(-1, HIGH), 0);
        Edge.is("none then", x.count(4), 0);
        Edge.is("it begins anew", x.plan(3, 15), 1);
        Edge.is("by what comes then alone", x.done(0), 15);
        for (int what : new int[] {LOW, -2, 4, HIGH}) {
            Edge.same("what " + what, Edge::rich, y -> y.plan(what, 0), NONE);
            Edge.same("NONE ahead of FULL: what " + what, Edge::full, y -> y.plan(what, 0), NONE);
        }
        for (int person : NO_PERSONS) {
            Edge.same("what 1, person " + person + " of five", Edge::rich, y -> y.plan(1, person), NONE);
            Edge.same("what 2, person " + person + " of five", Edge::rich, y -> y.plan(2, person), NONE);
        }
        for (int cell : Edge.NO_CELLS) {
            Edge.same("what 3, cell " + cell, Edge::rich, y -> y.plan(3, cell), NONE);
            Edge.same("NONE ahead of FULL: what 3, cell " + cell, Edge::full, y -> y.plan(3, cell), NONE);
        }
        Edge.same("NONE ahead of FULL: what 1, person 6 of six", Edge::full, y -> y.plan(1, 6), NONE);
        Edge.same("NONE ahead of FULL: what 2, person -1", Edge::full, y -> y.plan(2, -1), NONE);
        for (int what = 0; what <= 3; what++) {
            int row = what;
            Edge.same("FULL by what " + what, Edge::full, y -> y.plan(row, 0), FULL);
        }
        for (int n : new int[] {LOW, -1, 99, HIGH}) {
            AheadOfPerson y = Edge.rich();
            Edge.is("what -1, whatever n is: " + n, y.plan(-1, n), 0);
            Edge.is("none then, by n " + n, y.count(4), 0);
        }
        Edge.is("no PERSONS: what 1", new AheadOfPerson().plan(1, 0), NONE);
    }

    private static AheadOfPerson planned(AheadOfPerson x, int... rows) {
        for (int i = 0; i + 1 < rows.length; i += 2) {
            x.plan(rows[i], rows[i + 1]);
        }
        return x;
    }

    private static void done(String edge, AheadOfPerson x, int cell, int lay) {
        Edge.is(edge + ": its CELL", x.done(0), cell);
        Edge.is(edge + ": on how many it lay", x.done(1), lay);
    }

    private static void done() {
        for (int what : new int[] {LOW, -1, 2, 10, HIGH}) {
            Edge.same("what " + what, Edge::rich, y -> y.done(what), NONE);
        }
        Edge.same("asking for its CELL", Edge::rich, y -> 0 * y.done(0), 0);
        Edge.same("asking on how many", Edge::full, y -> 0 * y.done(1), 0);
        done("no rows, a new one", new AheadOfPerson(), 0, 0);
        AheadOfPerson full = Edge.full();
        full.plan(-1, 0);
        done("no rows, as it is", full, full.told(2), full.told(3));
        done("a STEP", planned(Edge.corner(), 0, 0), 1, 1);
        done("eight STEPS", planned(Edge.corner(), 0, 0, 0, 0, 0, 0, 0, 0, 0, 0, 0, 0, 0, 0, 0, 0), 15, 6);
        done("put on CELL 15: LAIN stays", planned(Edge.corner(), 3, 15), 15, 0);
        done("put on CELL 0: LAIN stays", planned(Edge.corner(), 0, 0, 3, 0), 0, 1);
        done("put eight times", planned(Edge.corner(), 3, 1, 3, 2, 3, 3, 3, 4, 3, 5, 3, 6, 3, 7, 3, 8), 8, 0);
        done("AWAY, so it stays", planned(Edge.corner(), 1, 0, 0, 0), 0, 1);
        done("AWAY and not, so it goes", planned(Edge.corner(), 1, 0, 2, 0, 0, 0), 1, 1);
        done("AWAY twice, and not once", planned(Edge.corner(), 1, 0, 1, 0, 2, 0, 0, 0), 1, 1);
        done("not AWAY as it is", planned(Edge.corner(), 2, 0, 0, 0), 1, 1);
        AheadOfPerson x = Edge.made("bored 0", Edge.six(0, 0, 15));
        for (int i = 0; i < 6; i++) {
            x.away(i, true);
        }
        done("the last is not AWAY then", planned(x, 2, 5, 0, 0), 1, 1);
        Edge.is("it is AWAY as it was", x.of(5, 3), 1);
        x = Edge.made("bored 0", Edge.six(0, 0, 15));
        done("all six are AWAY", planned(x, 1, 0, 1, 1, 1, 2, 1, 3, 1, 4, 1, 5, 0, 0), 0, 1);
        Edge.is("none is AWAY as it was", x.of(0, 3) + x.of(5, 3), 0);
    }

    private static void doneBeyond() {
        AheadOfPerson x = Edge.old();
        Edge.town(x, "bored 0;hope 50 c=1&s=9;hope 50 c=2&s=0;hope 50 c=3&s=1");
        x.person(0, 0, 0);
        done("STEP 9999: s is 9", planned(x, 0, 0), 1, 2);
        done("STEP 10000: s is 0", planned(x, 0, 0), 2, 3);
        done("STEP 10001: s is 1", planned(x, 0, 0), 3, 4);
        // CELL 0 draws 105 less its LAIN, CELL 1 draws 4: it goes there when LAIN is 102.
        x = Edge.made("bored 1;hope 99 c=0", 0, 0, 0);
        x.pass(60);
        x.pass(38);
        done("LAIN 102", planned(x, 0, 0, 0, 0, 0, 0, 0, 0), 0, 1);
        done("by LAIN 102 it leaves", planned(x, 0, 0), 1, 2);
        Edge.is("LAIN as it is", x.told(30), 98);
    }

    private static void book() {
        AheadOfPerson x = new AheadOfPerson();
        Edge.is("cell -1 by none", x.book(-1, 0), 0);
        Edge.is("CELL 0, LAIN 0", x.book(0, 0), 1);
        Edge.is("CELL 15, LAIN 99", x.book(15, 99), 2);
        Edge.is("the same again", x.book(15, 99), 3);
        for (int i = 4; i <= 8; i++) {
            Edge.is("number " + i, x.book(i, i), i);
        }
        Edge.is("the ninth", x.book(0, 0), FULL);
        Edge.is("how many there are", x.count(5), 8);
        Edge.is("cell -1 by eight", x.book(-1, 0), 0);
        Edge.is("none then", x.count(5), 0);
        Edge.is("it begins anew", x.book(0, 1), 1);
        Edge.is("by what comes then alone", x.looked(), 0);
        for (int lain : new int[] {LOW, -1, 100, HIGH}) {
            Edge.same("lain " + lain, Edge::rich, y -> y.book(0, lain), BAD);
            Edge.same("BAD ahead of FULL: lain " + lain, Edge::full, y -> y.book(15, lain), BAD);
            AheadOfPerson y = Edge.rich();
            Edge.is("cell -1, whatever lain is: " + lain, y.book(-1, lain), 0);
            Edge.is("none then, by lain " + lain, y.count(5), 0);
        }
        for (int cell : new int[] {LOW, -2, 16, HIGH}) {
            Edge.same("cell " + cell, Edge::rich, y -> y.book(cell, 0), NONE);
            Edge.same("NONE ahead of BAD: cell " + cell, Edge::rich, y -> y.book(cell, 100), NONE);
            Edge.same("NONE ahead of FULL: cell " + cell, Edge::full, y -> y.book(cell, 0), NONE);
        }
        Edge.same("FULL", Edge::full, y -> y.book(0, 0), FULL);
        Edge.same("FULL by the greatest", Edge::full, y -> y.book(15, 99), FULL);
    }

    private static void looked() {
        Edge.same("asking", Edge::rich, y -> 0 * y.looked(), 0);
        AheadOfPerson x = new AheadOfPerson();
        Edge.is("no rows", x.looked(), NEVER);
        x.book(0, 0);
        Edge.is("all as it is now", x.looked(), NEVER);
        x.book(15, 1);
        Edge.is("row 1 is otherwise, by 1 too many", x.looked(), 1);
        x.book(-1, 0);
        x.book(15, 1);
        x.book(15, 2);
        Edge.is("the first is row 0", x.looked(), 0);
        x.book(-1, 0);
        for (int i = 0; i < 7; i++) {
            x.book(i, 0);
        }
        x.book(15, 99);
        Edge.is("the last is row 7", x.looked(), 7);
        x.book(-1, 0);
        for (int i = 8; i < 16; i++) {
            x.book(i, 0);
        }
        Edge.is("eight, all as it is now", x.looked(), NEVER);
        x.pass(1);
        Edge.is("LAIN of no CELL in it changed", x.looked(), NEVER);
        x.book(-1, 0);
        x.book(0, 0);
        Edge.is("by 1 too few", x.looked(), 0);
        x.book(-1, 0);
        x.book(0, 1);
        Edge.is("as it is behind a STEP", x.looked(), NEVER);
        AheadOfPerson old = Edge.old();
        old.book(0, 99);
        Edge.is("LAIN 99", old.looked(), NEVER);
        old.book(0, 98);
        Edge.is("LAIN 99 is not 98", old.looked(), 1);
    }

    private static AheadOfPerson silent(AheadOfPerson x) {
        x.act(-1, 0, 0);
        return x;
    }

    private static void noActs() {
        for (int person : NO_PERSONS) {
            AheadOfPerson x = Edge.rich();
            Edge.is("one ran before person " + person, x.count(7) > 0 ? 1 : 0, 1);
            Edge.is("person " + person + " of five", x.act(person, 0, 7), 0);
            Edge.is("no TRACE then: person " + person, x.trace(0), NONE);
            Edge.is("nothing ran then: person " + person, x.count(7), 0);
        }
        for (int act : new int[] {LOW, -1, 3, HIGH}) {
            AheadOfPerson x = Edge.rich();
            Edge.is("act " + act, x.act(0, act, 7), 0);
            Edge.is("no TRACE then: act " + act, x.trace(0), NONE);
            Edge.is("nothing ran then: act " + act, x.count(7), 0);
            Edge.same("but for THE TRACE: act " + act, () -> silent(Edge.rich()), y -> y.act(0, act, 7), 0);
        }
        Edge.is("no PERSONS at all", new AheadOfPerson().act(0, 0, 1), 0);
        Edge.is("person 6 of six", Edge.full().act(6, 0, 1), 0);
        Edge.is("the last of six: KING, 51", Edge.full().act(5, 0, 10), 15 ^ 5);
        Edge.same("an act but for THE TRACE", () -> silent(Edge.rich()), y -> 0 * y.act(2, 2, 7) + y.act(9, 0, 0), 0);
    }

    private static void ran(AheadOfPerson x, int person, int act, int given, int want, int... bodies) {
        String which = "KIND " + x.of(person, 0) + ", number " + person + ", act " + act + ", x " + given;
        Edge.is(which, x.act(person, act, given), want);
        Edge.is(which + ": how many ran", x.count(7), bodies.length);
        for (int i = 0; i < bodies.length; i++) {
            Edge.is(which + ": body " + i, x.trace(i), bodies[i]);
        }
        Edge.is(which + ": no body more", x.trace(bodies.length), NONE);
    }

    /** Each KIND's acts go by its own bodies, or by those of the next KIND above that has one. */
    private static void acts() {
        AheadOfPerson x = Edge.made("", 0, 1, 0, 1, 2, 0, 2, 3, 0, 3, 4, 0, 4, 5, 0, 6, 9, 0);
        ran(x, 0, STANDS, 10, 10, 1);
        ran(x, 0, LOOKS, 10, 9, 2, 1);
        ran(x, 0, TELLS, 10, 18, 3, 2, 1);
        ran(x, 1, STANDS, 10, 31, 11, 1);
        ran(x, 1, LOOKS, 10, 29, 2, 11, 1);
        ran(x, 1, TELLS, 10, 58, 3, 2, 11, 1);
        ran(x, 2, STANDS, 10, 12, 1);
        ran(x, 2, LOOKS, 10, -9, 21, 2, 1);
        ran(x, 2, TELLS, 10, -18, 3, 21, 2, 1);
        ran(x, 3, STANDS, 10, 13, 1);
        ran(x, 3, LOOKS, 10, 9, 2, 1);
        ran(x, 3, TELLS, 10, 18 ^ 7, 31, 3, 2, 1);
        ran(x, 4, STANDS, 10, 34, 11, 1);
        ran(x, 4, LOOKS, 10, 29, 2, 11, 1);
        ran(x, 4, TELLS, 10, (27 + 4 - 5) * 2 + (2 * 3 + 4), 41, 3, 2, 11, 1, 11, 1);
        ran(x, 5, STANDS, 10, 15, 1);
        ran(x, 5, LOOKS, 10, 15, 61, 2, 1);
        ran(x, 5, TELLS, 10, 30 ^ 7, 31, 3, 61, 2, 1);
        AheadOfPerson king = Edge.made("", 0, 0, 0, 5, 8, 0);
        ran(king, 1, STANDS, 10, 11 ^ 1, 51, 1);
        ran(king, 1, LOOKS, 10, -((11 ^ 1) - 8), 21, 2, 51, 1);
        ran(king, 1, TELLS, 10, -2 * ((11 ^ 1) - 8), 3, 21, 2, 51, 1);
        x.away(0, true);
        ran(x, 0, STANDS, 0, 0, 1);
    }

    /** All reckoning wraps around, as ints do. */
    private static void wraps() {
        AheadOfPerson x = Edge.made("", 0, 9, 0, 1, 0, 0, 2, 0, 0, 3, 0, 0, 4, 9, 0, 6, 9, 0);
        ran(x, 3, STANDS, HIGH, LOW + 2, 1);
        ran(x, 3, STANDS, HIGH - 3, HIGH, 1);
        ran(x, 3, STANDS, HIGH - 2, LOW, 1);
        ran(x, 0, LOOKS, LOW, HIGH - 8, 2, 1);
        ran(x, 0, LOOKS, LOW + 9, LOW, 2, 1);
        ran(x, 0, LOOKS, LOW + 8, HIGH, 2, 1);
        ran(x, 0, TELLS, HIGH, -20, 3, 2, 1);
        ran(x, 0, TELLS, (1 << 30) + 9, LOW, 3, 2, 1);
        ran(x, 0, TELLS, (1 << 30) + 8, HIGH - 1, 3, 2, 1);
        // 715827882 * 3 + 1 is HIGH, and 715827883 * 3 + 1 is 3 beyond that.
        ran(x, 1, STANDS, 715827882, HIGH, 11, 1);
        ran(x, 1, STANDS, 715827883, LOW + 2, 11, 1);
        ran(x, 1, STANDS, LOW, LOW + 1, 11, 1);
        ran(x, 1, STANDS, HIGH, HIGH - 1, 11, 1);
        ran(x, 2, LOOKS, HIGH - 1, LOW, 21, 2, 1);
        ran(x, 2, LOOKS, HIGH - 2, -HIGH, 21, 2, 1);
        ran(x, 2, LOOKS, LOW, HIGH - 1, 21, 2, 1);
        ran(x, 3, TELLS, HIGH, 4 ^ 7, 31, 3, 2, 1);
        // x - 1 is HIGH, 3 times that is HIGH - 2, and 4 more LOW + 1; 9 less, doubled, is -16; and 2 * 3 + 4.
        ran(x, 4, TELLS, LOW, -16 + 10, 41, 3, 2, 11, 1, 11, 1);
        ran(x, 5, LOOKS, HIGH, LOW + 4, 61, 2, 1);
        ran(x, 5, LOOKS, HIGH - 5, HIGH, 61, 2, 1);
        AheadOfPerson king = Edge.made("", 0, 0, 0, 5, 0, 0);
        ran(king, 1, STANDS, HIGH, LOW + 1, 51, 1);
        ran(king, 1, STANDS, -2, -2, 51, 1);
        ran(king, 1, LOOKS, HIGH - 1, LOW + 2, 21, 2, 51, 1);
    }

    private static void trace() {
        AheadOfPerson x = Edge.made("", 4, 0, 0, 0, 0, 0);
        Edge.is("no act yet: 0", x.trace(0), NONE);
        Edge.is("no act yet: -1", x.trace(-1), NONE);
        x.act(0, TELLS, 0);
        int[] bodies = {41, 3, 2, 11, 1, 11, 1};
        for (int i = 0; i < bodies.length; i++) {
            Edge.is("body " + i + ", as it began", x.trace(i), bodies[i]);
        }
        for (int i : new int[] {LOW, -1, 7, 19, 20, 21, HIGH}) {
            Edge.is("i " + i + " of seven", x.trace(i), NONE);
            Edge.same("i " + i, Edge::full, y -> y.trace(i), NONE);
        }
        Edge.same("asking", Edge::full, y -> y.trace(0), 41);
        x.act(1, STANDS, 0);
        Edge.is("of the latest act", x.trace(0), 1);
        Edge.is("of the latest act alone", x.trace(1), NONE);
        x.act(2, STANDS, 0);
        Edge.is("none behind an act of nobody", x.trace(0), NONE);
    }

    private static void as() {
        String[] are = {"0", "01", "02", "03", "014", "025", "036"};
        for (int kind = 0; kind <= 6; kind++) {
            for (int k = 0; k <= 6; k++) {
                AheadOfPerson x = Edge.made("", kind, 9 - kind, 0);
                int want = are[kind].indexOf('0' + k) >= 0 ? 9 - kind : -6;
                Edge.is("KIND " + kind + " taken for " + k, x.as(0, k), want);
            }
        }
        Edge.is("v 0 is no refusal", Edge.made("", 6, 0, 0).as(0, 0), 0);
        AheadOfPerson away = Edge.made("", 1, 5, 0);
        away.away(0, true);
        Edge.is("one AWAY, too", away.as(0, 1), 5);
        for (int k : new int[] {LOW, -1, 7, HIGH}) {
            Edge.same("k " + k, Edge::rich, y -> y.as(0, k), NONE);
        }
        for (int person : NO_PERSONS) {
            Edge.same("person " + person + " of five", Edge::rich, y -> y.as(person, 0), NONE);
        }
        Edge.same("of another KIND", Edge::rich, y -> y.as(0, 6), -6);
        Edge.same("asking", Edge::rich, y -> y.as(0, 0), 1);
        Edge.is("the last of six", Edge.full().as(5, 2), 5);
        Edge.is("person 6 of six", Edge.full().as(6, 0), NONE);
        Edge.is("no PERSONS at all", new AheadOfPerson().as(0, 0), NONE);
    }

    private static void image() {
        Edge.is("no PERSONS", new AheadOfPerson().image(), 0);
        Edge.is("one", Edge.corner().image(), 1);
        Edge.is("six", Edge.full().image(), 6);
        Edge.same("taken anew of what it was taken of", PlanEdges::imaged, AheadOfPerson::image, 1);
        AheadOfPerson x = Edge.corner();
        x.image();
        x.person(0, 0, 0);
        Edge.is("a newer one", x.image(), 2);
        x.person(0, 0, 0);
        Edge.is("is what undo comes back to", x.undo(), 2);
        Edge.is("and not the older one", x.undo(), 2);
        x.act(0, LOOKS, 0);
        x.image();
        Edge.is("THE TRACE stays", x.trace(1), 1);
        Edge.is("and how many ran", x.count(7), 2);
    }

    private static AheadOfPerson imaged() {
        AheadOfPerson x = Edge.corner();
        x.pass(3);
        x.image();
        return x;
    }

    private static AheadOfPerson without() {
        AheadOfPerson x = Edge.corner();
        x.pass(3);
        x.walk(3);
        return x;
    }

    private static AheadOfPerson changed(AheadOfPerson x) {
        x.image();
        Edge.town(x, "v=5");
        Edge.town(x, "bored 9;hope 5 c=1");
        x.person(2, 2, 2);
        x.line(3, 0, 9);
        x.move(0, 0);
        x.away(1, true);
        x.away(2, false);
        x.lay(15);
        x.pass(60);
        x.walk(5);
        x.see(-1, 0);
        x.plan(-1, 0);
        x.book(5, 5);
        x.feed('h');
        return x;
    }

    private static AheadOfPerson taken(AheadOfPerson x) {
        x.image();
        return x;
    }

    private static void undo() {
        Edge.same("there is none", PlanEdges::without, AheadOfPerson::undo, Edge.STATE);
        Edge.is("there is none in a new one", new AheadOfPerson().undo(), Edge.STATE);
        AheadOfPerson x = new AheadOfPerson();
        x.image();
        x.person(0, 0, 0);
        Edge.town(x, "bored 9");
        Edge.is("to no PERSONS", x.undo(), 0);
        Edge.is("there are none", x.count(0), 0);
        Edge.is("nor TOWNS", x.count(1), 0);
        Edge.is("BORED without", x.told(1), 2);
        Edge.is("the next PERSON is 0", x.person(0, 0, 0), 0);
        Edge.is("the next TOWN is 0", Edge.town(x, "bored 1"), 0);
        Edge.is("THE IMAGE stays", x.undo(), 0);
        x = Edge.full();
        Edge.is("to fewer PERSONS", x.undo(), 4);
        Edge.is("who is no more", x.of(4, 0), Edge.NO_SUCH);
        Edge.is("one more than comes again", x.person(0, 3, 3), 4);
        Edge.is("it is not AWAY", x.of(4, 3), 0);
        Edge.is("neither TAPE nor TOWNS are full", Edge.town(x, "bored 7"), 1);
        Edge.is("nor the others", x.walk(0) * 1000 + x.see(0, 0) * 100 + x.plan(0, 0) * 10 + x.book(0, 0), 1111);
        x = Edge.corner();
        x.image();
        x.pass(60);
        x.undo();
        Edge.is("STEP", x.told(0), 0);
        Edge.is("its CELL", x.told(2), 0);
        Edge.is("LAIN", x.told(3), 0);
        x = Edge.old();
        x.lay(3);
        x.image();
        x.lay(0);
        x.undo();
        Edge.is("STEP 9999", x.told(0), 9999);
        Edge.is("LAIN 99", x.told(30), 99);
        Edge.is("CELL 3", x.told(2), 3);
    }

    private static void undone() {
        Edge.same("all is as it was", () -> taken(Edge.rich()), y -> changed(y).undo(), 5);
        Edge.same("at once", () -> taken(Edge.rich()), AheadOfPerson::undo, 5);
        Edge.same("twice", () -> taken(Edge.rich()), y -> 10 * changed(y).undo() + y.undo(), 55);
        AheadOfPerson x = Edge.rich();
        x.image();
        x.act(0, STANDS, 0);
        x.undo();
        Edge.is("THE TRACE is not in it", x.trace(0), 1);
        Edge.is("nor how many ran", x.count(7), 1);
        x = Edge.corner();
        x.act(0, STANDS, 0);
        x.image();
        x.act(9, STANDS, 0);
        x.undo();
        Edge.is("an empty TRACE stays empty", x.trace(0), NONE);
        x = Edge.feed(new AheadOfPerson(), "bored 1");
        x.image();
        x.town();
        x.undo();
        Edge.is("THE TAPE is in it", x.town(), 0);
        Edge.is("byte by byte", x.told(1), 1);
    }

    private static void counts() {
        int[] most = {6, 5, 10, 5, 8, 8, 100, 7};
        AheadOfPerson x = Edge.full();
        for (int what = 0; what < most.length; what++) {
            Edge.is("what " + what + " of a full one", x.count(what), most[what]);
            Edge.is("what " + what + " of a new one", new AheadOfPerson().count(what), 0);
        }
        for (int what : new int[] {LOW, -1, 8, HIGH}) {
            Edge.same("what " + what, Edge::rich, y -> y.count(what), NONE);
        }
        Edge.same("asking", Edge::full, y -> y.count(6), 100);
        int[] some = {5, 1, 3, 2, 3, 2, 8, 7};
        x = Edge.rich();
        for (int what = 0; what < some.length; what++) {
            Edge.is("what " + what + " of another", x.count(what), some[what]);
        }
        x.walk(-1);
        x.see(-1, 0);
        x.plan(-1, 0);
        x.book(-1, 0);
        x.town();
        int[] cleared = {5, 1, 0, 0, 0, 0, 0, 7};
        for (int what = 0; what < cleared.length; what++) {
            Edge.is("what " + what + " behind -1 of each, and a FAULT", x.count(what), cleared[what]);
        }
    }
}
