/** The boundary cases that the document names of WALKS, what is SEEN, ODDS and MEAN: promises 17 to 24. */
public final class SeenEdges {
    private static final int LOW = Edge.LOW, HIGH = Edge.HIGH;
    private static final int NONE = Edge.NONE, BAD = Edge.BAD, FULL = Edge.FULL, NEVER = Edge.NEVER;
    private static final int[] NO_PARTS = {LOW, -1, 2, HIGH};
    private static final int[] NO_PERSONS = {LOW, -1, 5, 6, HIGH};

    private SeenEdges() {
    }

    public static void main(String[] args) {
        Edge.promise(17);
        walk();
        Edge.promise(18);
        met();
        followed();
        Edge.promise(19);
        see();
        Edge.promise(20);
        doors();
        Edge.promise(21);
        firm();
        Edge.promise(22);
        sought();
        Edge.promise(23);
        odds();
        oddsOfSix();
        noOdds();
        Edge.promise(24);
        mean();
        noMean();
        Edge.end(17, 24);
    }

    private static AheadOfPerson walked(AheadOfPerson x, int... cells) {
        x.walk(-1);
        for (int cell : cells) {
            x.walk(cell);
        }
        return x;
    }

    private static void walk() {
        AheadOfPerson x = new AheadOfPerson();
        Edge.is("cell -1 by none", x.walk(-1), 0);
        Edge.is("CELL 0", x.walk(0), 1);
        Edge.is("CELL 15", x.walk(15), 2);
        Edge.is("the same CELL again", x.walk(15), 3);
        for (int i = 4; i <= 10; i++) {
            Edge.is("number " + i, x.walk(i), i);
        }
        Edge.is("the 11th", x.walk(0), FULL);
        Edge.is("how many there are", x.count(2), 10);
        Edge.is("cell -1 by ten", x.walk(-1), 0);
        Edge.is("none then", x.count(2), 0);
        Edge.is("it begins anew", x.walk(0), 1);
        Edge.is("by what comes then alone", x.met(0), 0);
        for (int cell : new int[] {LOW, -2, 16, HIGH}) {
            Edge.same("cell " + cell, Edge::rich, y -> y.walk(cell), NONE);
            Edge.same("NONE ahead of FULL: cell " + cell, Edge::full, y -> y.walk(cell), NONE);
        }
        Edge.same("FULL by CELL 0", Edge::full, y -> y.walk(0), FULL);
        Edge.same("FULL by CELL 15", Edge::full, y -> y.walk(15), FULL);
    }

    private static void met() {
        for (int what : new int[] {LOW, -1, 2, HIGH}) {
            Edge.same("what " + what, Edge::rich, y -> y.met(what), NONE);
        }
        Edge.same("asking MET", Edge::rich, y -> 0 * y.met(0), 0);
        Edge.same("asking FOLLOWED", Edge::rich, y -> 0 * y.met(1), 0);
        // It goes 0, 1, 2, 3, 7, 11, 15, 15, 15, 15, 15.
        AheadOfPerson x = Edge.corner();
        Edge.is("no WALK: MET", x.met(0), NEVER);
        Edge.is("MET now, by one CELL", walked(x, 0).met(0), 0);
        Edge.is("MET not now, by one CELL", walked(x, 1).met(0), NEVER);
        Edge.is("MET behind 1", walked(x, 12, 1).met(0), 1);
        Edge.is("MET first of several", walked(x, 12, 1, 2, 12, 7).met(0), 1);
        Edge.is("MET first is now", walked(x, 0, 1, 2).met(0), 0);
        Edge.is("MET by the last of ten, behind 9", walked(x, 12, 12, 12, 12, 12, 12, 12, 12, 12, 15).met(0), 9);
        Edge.is("MET by none of ten", walked(x, 12, 12, 12, 12, 12, 12, 12, 12, 12, 12).met(0), NEVER);
        Edge.is("the WALK does not go on behind its last", walked(x, 12, 12, 3).met(0), NEVER);
        x.lay(15);
        Edge.is("MET in CELL 15 now", walked(x, 15).met(0), 0);
        Edge.is("from this STEP on, not from its begin", walkedThenPassed().met(0), 0);
        AheadOfPerson old = Edge.old();
        Edge.is("beyond STEP 9999", walked(old, 1, 1, 0).met(0), 2);
        Edge.is("beyond STEP 9999, by s", walked(Edge.oldWithSteps(), 12, 12, 12, 3).met(0), 3);
        Edge.is("beyond LAIN 99", walked(Edge.wornOff(), 12, 12, 12, 1).met(0), 3);
    }

    private static AheadOfPerson walkedThenPassed() {
        AheadOfPerson x = walked(Edge.corner(), 2, 2, 2);
        x.pass(2);
        return x;
    }

    private static void followed() {
        AheadOfPerson x = Edge.corner();
        Edge.is("no WALK: FOLLOWED", x.met(1), NEVER);
        Edge.is("FOLLOWED is never so now", walked(x, 0).met(1), NEVER);
        Edge.is("FOLLOWED behind 1, the last CELL of one", walked(x, 1).met(1), 1);
        Edge.is("FOLLOWED behind 1, of two", walked(x, 1, 12).met(1), 1);
        Edge.is("FOLLOWED behind 2, the last of two", walked(x, 12, 2).met(1), 2);
        Edge.is("FOLLOWED first of several", walked(x, 12, 2, 3, 7).met(1), 2);
        Edge.is("FOLLOWED by ten, behind 9", walked(x, 12, 12, 12, 12, 12, 12, 12, 12, 15, 12).met(1), 9);
        Edge.is("FOLLOWED by ten, behind 10", walked(x, 12, 12, 12, 12, 12, 12, 12, 12, 12, 15).met(1), 10);
        Edge.is("FOLLOWED by none of ten", walked(x, 12, 12, 12, 12, 12, 12, 12, 12, 12, 12).met(1), NEVER);
        Edge.is("MET is not FOLLOWED", walked(x, 0, 1, 2, 3, 7, 11, 14).met(1), NEVER);
        AheadOfPerson still = new AheadOfPerson();
        Edge.town(still, "bored 0");
        Edge.is("it stays: FOLLOWED behind 1", walked(still, 0, 0).met(1), 1);
        Edge.is("it stays: MET now", still.met(0), 0);
        Edge.is("FOLLOWED beyond STEP 9999, by s", walked(Edge.oldWithSteps(), 12, 12, 3).met(1), 3);
        Edge.is("FOLLOWED beyond LAIN 99", walked(Edge.wornOff(), 12, 12, 1).met(1), 3);
    }

    private static void see() {
        AheadOfPerson x = new AheadOfPerson();
        Edge.is("cell -1 by none", x.see(-1, 0), 0);
        Edge.is("CELL 0, n 0", x.see(0, 0), 1);
        Edge.is("CELL 15, n 20", x.see(15, 20), 2);
        Edge.is("the same again", x.see(15, 20), 3);
        Edge.is("number 4", x.see(0, 20), 4);
        Edge.is("number 5", x.see(15, 0), 5);
        Edge.is("the sixth", x.see(0, 0), FULL);
        Edge.is("how many there are", x.count(3), 5);
        Edge.is("cell -1 by five", x.see(-1, 20), 0);
        Edge.is("none then", x.count(3), 0);
        Edge.is("it begins anew", x.see(0, 0), 1);
        for (int n : new int[] {LOW, -1, 21, HIGH}) {
            Edge.same("n " + n, Edge::rich, y -> y.see(0, n), BAD);
            Edge.same("BAD ahead of FULL: n " + n, Edge::full, y -> y.see(15, n), BAD);
            AheadOfPerson y = Edge.rich();
            Edge.is("cell -1, whatever n is: " + n, y.see(-1, n), 0);
            Edge.is("none then, by n " + n, y.count(3), 0);
        }
        for (int cell : new int[] {LOW, -2, 16, HIGH}) {
            Edge.same("cell " + cell, Edge::rich, y -> y.see(cell, 0), NONE);
            Edge.same("NONE ahead of BAD: cell " + cell, Edge::rich, y -> y.see(cell, 21), NONE);
            Edge.same("NONE ahead of FULL: cell " + cell, Edge::full, y -> y.see(cell, 0), NONE);
        }
        Edge.same("FULL", Edge::full, y -> y.see(0, 0), FULL);
        Edge.same("FULL by the greatest", Edge::full, y -> y.see(15, 20), FULL);
    }

    private static void doors() {
        for (int person : NO_PERSONS) {
            Edge.same("person " + person + " of five", Edge::rich, y -> y.doors(person), NONE);
        }
        Edge.is("no PERSONS at all", new AheadOfPerson().doors(0), NONE);
        Edge.is("the last of six", Edge.made("", Edge.six(0, 0, 0)).doors(5), 65535);
        Edge.is("person 6 of six", Edge.made("", Edge.six(0, 0, 0)).doors(6), NONE);
        Edge.same("asking", Edge::rich, y -> 0 * y.doors(0), 0);
        AheadOfPerson x = Edge.corner();
        Edge.is("nothing SEEN: all CELLS", x.doors(0), 65535);
        x.see(0, 0);
        Edge.is("SEEN now, where it is: all CELLS", x.doors(0), 65535);
        x.see(15, 20);
        Edge.is("behind 20: the last CELL alone", x.doors(0), 1 << 15);
        x.see(-1, 0);
        x.see(0, 1);
        Edge.is("behind 1: the first CELL alone", x.doors(0), 1);
        x.see(0, 20);
        Edge.is("and behind 20", x.doors(0), 1);
        x.see(1, 20);
        Edge.is("on two CELLS at once: none", x.doors(0), 0);
        x.see(-1, 0);
        x.see(15, 0);
        Edge.is("where it is not now: none", x.doors(0), 0);
        x.see(-1, 0);
        x.see(0, 3);
        x.away(0, true);
        Edge.is("of one AWAY: all, for it draws nothing", x.doors(0), 65535);
        x.see(1, 3);
        Edge.is("of one AWAY: none", x.doors(0), 0);
        x = Edge.corner();
        x.see(1, 1);
        x.see(2, 2);
        x.see(3, 3);
        x.see(7, 4);
        x.see(11, 5);
        Edge.is("all five of SEEN", x.doors(0), 1 << 15 | 1 << 11);
        // An n told later may be less than one told before.
        x = Edge.corner();
        x.see(15, 6);
        x.see(12, 3);
        Edge.is("each of SEEN, in whatever order", x.doors(0), 0);
        x = Edge.old();
        x.person(0, 0, 15);
        x.see(1, 1);
        x.see(15, 20);
        Edge.is("beyond STEP 9999", x.doors(0), 1 << 15);
        Edge.is("beyond STEP 9999, by s, wherever it is", seenBySteps().doors(0), 65535);
        // From 1 and 4 it holds it in CELL 0 till LAIN 101; from 0, 2 and 5 it draws it to CELL 1, where it stays.
        x = Edge.wornOff();
        x.see(1, 3);
        Edge.is("beyond LAIN 99", x.doors(0), 1 | 1 << 1 | 1 << 2 | 1 << 4 | 1 << 5);
    }

    private static AheadOfPerson seenBySteps() {
        AheadOfPerson x = Edge.oldWithSteps();
        x.see(1, 1);
        x.see(2, 2);
        x.see(3, 3);
        return x;
    }

    /** KING 0 draws it to CELL 1 by its v, which CELL 0 outdoes by LURE: 6 and more. */
    private static AheadOfPerson king(int more) {
        return Edge.made("bored 0;hope " + more + " c=0", 5, 2, 1);
    }

    private static void firm() {
        for (int what : new int[] {LOW, -1, 2, HIGH}) {
            Edge.same("what " + what, Edge::rich, y -> y.firm(0, what), NONE);
        }
        for (int person : NO_PERSONS) {
            Edge.same("person " + person + " of five", Edge::rich, y -> y.firm(person, 0), NONE);
            Edge.same("the least, person " + person + " of five", Edge::rich, y -> y.firm(person, 1), NONE);
        }
        Edge.is("no PERSONS at all", new AheadOfPerson().firm(0, 0), NONE);
        Edge.is("the last of six", Edge.made("", Edge.six(0, 0, 0)).firm(5, 0), 10);
        Edge.is("person 6 of six", Edge.made("", Edge.six(0, 0, 0)).firm(6, 0), NONE);
        Edge.same("asking how many", Edge::rich, y -> 0 * y.firm(0, 0), 0);
        Edge.same("asking the least", Edge::rich, y -> 0 * y.firm(4, 1), 0);
        AheadOfPerson x = king(0);
        Edge.is("nothing SEEN: all ten", x.firm(0, 0), 10);
        Edge.is("nothing SEEN: the least", x.firm(0, 1), 0);
        x.see(1, 1);
        Edge.is("it must be 7 at least: how many", x.firm(0, 0), 3);
        Edge.is("it must be 7 at least: the least", x.firm(0, 1), 7);
        x.see(0, 2);
        Edge.is("one of SEEN is not so: how many", x.firm(0, 0), 0);
        Edge.is("one of SEEN is not so: the least", x.firm(0, 1), NEVER);
        firmAt("it may be 6 at most", king(0), 0, 7, 0);
        firmAt("just 9 will do", king(2), 1, 1, 9);
        firmAt("9 is as good as CELL 0: none", king(3), 1, 0, NEVER);
        firmAt("just 0 will not do", Edge.made("bored 0;shy 6 c=0", 5, 2, 1), 1, 9, 1);
        firmAt("all will do", Edge.made("bored 0;shy 7 c=0", 5, 2, 1), 1, 10, 0);
        x = king(0);
        x.away(0, true);
        firmAt("of one AWAY: all", x, 0, 10, 0);
        // STEP 20 is behind all others, so v has to do for all of them.
        x = king(0);
        x.see(1, 20);
        Edge.is("behind 20: how many", x.firm(0, 0), 3);
        Edge.is("its v stays", x.of(0, 1), 2);
        Edge.is("beyond STEP 9999, by s: how many", seenBySteps().firm(0, 0), 10);
        Edge.is("beyond STEP 9999, by s: the least", seenBySteps().firm(0, 1), 0);
        x = Edge.old();
        x.person(5, 2, 1);
        x.see(1, 20);
        Edge.is("beyond STEP 9999: how many", x.firm(0, 0), 3);
        Edge.is("beyond STEP 9999: the least", x.firm(0, 1), 7);
        x = Edge.wornOff();
        x.see(0, 2);
        x.see(1, 3);
        Edge.is("beyond LAIN 99: how many", x.firm(0, 0), 10);
        Edge.is("beyond LAIN 99: the least", x.firm(0, 1), 0);
    }

    private static void firmAt(String edge, AheadOfPerson x, int cell, int count, int least) {
        x.see(cell, 1);
        Edge.is(edge + ": how many", x.firm(0, 0), count);
        Edge.is(edge + ": the least", x.firm(0, 1), least);
    }

    private static void sought() {
        Edge.same("asking", Edge::rich, y -> 0 * y.sought(), 0);
        AheadOfPerson x = new AheadOfPerson();
        Edge.is("no PERSONS", x.sought(), 0);
        x.see(0, 0);
        Edge.is("no PERSONS, though SEEN is so", x.sought(), 0);
        x = Edge.made("bored 0", Edge.six(0, 0, 15));
        Edge.is("nothing SEEN: all six", x.sought(), 63);
        x.see(15, 6);
        Edge.is("each of six will do", x.sought(), 63);
        x.move(0, 12);
        Edge.is("all but the first", x.sought(), 62);
        x.move(5, 12);
        Edge.is("all but the first and the last", x.sought(), 30);
        x.see(-1, 0);
        x.see(12, 20);
        Edge.is("the first and the last", x.sought(), 33);
        x.move(0, 0);
        Edge.is("the last alone", x.sought(), 32);
        x.away(5, true);
        Edge.is("the last, AWAY as it is", x.sought(), 32);
        x.move(0, 12);
        x.move(5, 0);
        x.away(5, false);
        Edge.is("the first alone", x.sought(), 1);
        x.see(13, 20);
        Edge.is("none", x.sought(), 0);
        x.see(-1, 0);
        x.see(0, 0);
        Edge.is("SEEN now, behind 0: all", x.sought(), 63);
        x.see(1, 0);
        Edge.is("where it is not now: none", x.sought(), 0);
        AheadOfPerson old = Edge.old();
        old.person(0, 0, 15);
        old.see(15, 20);
        Edge.is("beyond STEP 9999", old.sought(), 1);
        Edge.is("beyond STEP 9999, by s", seenBySteps().sought(), 1);
        x = Edge.wornOff();
        x.see(1, 3);
        Edge.is("beyond LAIN 99", x.sought(), 1);
    }

    private static void fraction(String edge, AheadOfPerson x, int cell, int n, int above, int below) {
        Edge.is(edge + ": above", x.odds(cell, n, 0), above);
        Edge.is(edge + ": below", x.odds(cell, n, 1), below);
    }

    private static void odds() {
        Edge.same("asking above", Edge::rich, y -> 0 * y.odds(0, 60, 0), 0);
        Edge.same("asking below", Edge::rich, y -> 0 * y.odds(15, 0, 1), 0);
        AheadOfPerson x = Edge.corner();
        fraction("n 0, CELL 0, where it is", x, 0, 0, 1, 1);
        fraction("n 0, CELL 15, where it is not", x, 15, 0, 0, 1);
        fraction("n 60, the one being AWAY, CELL 0", x, 0, 60, 1, 1);
        fraction("n 60, the one being AWAY, CELL 15", x, 15, 60, 0, 1);
        x.away(0, true);
        fraction("one AWAY as it is", x, 0, 6, 1, 1);
        x = Edge.made("bored 0", 0, 0, 15, 0, 0, 12);
        fraction("one of two draws it to CELL 15", x, 15, 60, 1, 2);
        fraction("one of two draws it to CELL 12", x, 12, 60, 1, 2);
        fraction("neither draws it to CELL 3", x, 3, 60, 0, 1);
        fraction("each from now on, behind 3 in CELL 3", x, 3, 3, 1, 2);
        fraction("each from now on, behind 3 in CELL 12", x, 12, 3, 1, 2);
        x.away(1, true);
        fraction("one of two is AWAY already: it comes if that is the one", x, 15, 6, 1, 2);
        fraction("one of two is AWAY already: it stays if the other is the one", x, 0, 6, 1, 2);
        AheadOfPerson old = Edge.old();
        old.person(0, 0, 15);
        old.person(0, 0, 15);
        fraction("beyond STEP 9999", old, 15, 60, 1, 1);
        old = Edge.oldWithSteps();
        old.person(0, 0, 3);
        fraction("beyond STEP 9999, by s", old, 3, 3, 1, 1);
        // Either of two SWEEPS holds it in CELL 0 till LAIN 101.
        fraction("beyond LAIN 99", Edge.worn(0, "bored 1;hope 94 c=0", 2, 0, 1, 2, 0, 4), 1, 3, 1, 1);
    }

    /** Six in CELL 0, of whom each that is below k has to be there so that it goes to CELL 1. */
    private static AheadOfPerson needsAllBelow(int k) {
        if (k == 0) {
            return Edge.made("bored 0;hope 30 c=1", Edge.six(0, 0, 0));
        }
        String back = k == 1 ? "" : ";hope " + (10 * k - 16) + " p=5&c=0";
        return Edge.made("bored 0;hope " + (k == 1 ? 20 : 10) + " p<" + k + "&c=1" + back, Edge.six(0, 0, 0));
    }

    private static void oddsOfSix() {
        int[][] terms = {{0, 1}, {1, 6}, {1, 3}, {1, 2}, {2, 3}, {5, 6}, {1, 1}};
        for (int k = 0; k < 6; k++) {
            Edge.is("it goes to CELL 1 as it is, " + k, needsAllBelow(k).on(1, 0), 1);
            fraction("it stays by " + k + " of six", needsAllBelow(k), 0, 1, terms[k][0], terms[k][1]);
            fraction("it goes by " + (6 - k) + " of six", needsAllBelow(k), 1, 1, terms[6 - k][0], terms[6 - k][1]);
        }
    }

    private static void noOdds() {
        for (int cell : Edge.NO_CELLS) {
            Edge.same("cell " + cell, Edge::rich, y -> y.odds(cell, 0, 0), Edge.NO);
        }
        for (int n : new int[] {LOW, -1, 61, HIGH}) {
            Edge.same("n " + n, Edge::rich, y -> y.odds(0, n, 0), Edge.NO);
        }
        for (int part : NO_PARTS) {
            Edge.same("part " + part, Edge::rich, y -> y.odds(0, 0, part), Edge.NO);
        }
        Edge.is("no PERSONS, above", new AheadOfPerson().odds(0, 0, 0), Edge.NO);
        Edge.is("no PERSONS, below", new AheadOfPerson().odds(0, 0, 1), Edge.NO);
    }

    private static void means(String edge, AheadOfPerson x, int n, int above, int below) {
        Edge.is(edge + ": above", x.mean(n, 0), above);
        Edge.is(edge + ": below", x.mean(n, 1), below);
    }

    private static void mean() {
        Edge.same("asking above", Edge::rich, y -> 0 * y.mean(60, 0), 0);
        Edge.same("asking below", Edge::rich, y -> 0 * y.mean(0, 1), 0);
        AheadOfPerson x = Edge.corner();
        means("n 0, as FAR as can be", x, 0, 6, 1);
        means("n 6, it is there", x, 6, 0, 1);
        means("n 60, it is there", x, 60, 0, 1);
        means("n 1", x, 1, 5, 1);
        x = Edge.made("bored 0", 0, 0, 15, 0, 0, 1);
        means("two: 7 by 2", x, 0, 7, 2);
        x.move(1, 5);
        means("two: 8 by 2, lowest terms", x, 0, 4, 1);
        x.away(1, true);
        means("one of two is AWAY", x, 0, 6, 1);
        x.away(1, false);
        x.away(0, true);
        means("the other of two is AWAY", x, 0, 2, 1);
        x = Edge.made("bored 0", Edge.six(0, 0, 0));
        means("six: 0 by 6", x, 0, 0, 1);
        x.move(5, 1);
        means("six: 1 by 6", x, 0, 1, 6);
        x.move(4, 1);
        means("six: 2 by 6", x, 0, 1, 3);
        x.move(3, 1);
        means("six: 3 by 6", x, 0, 1, 2);
        x.move(5, 5);
        means("six: 4 by 6", x, 0, 2, 3);
        x.move(4, 5);
        means("six: 5 by 6", x, 0, 5, 6);
        x.move(3, 5);
        means("six: 6 by 6", x, 0, 1, 1);
        for (int i = 0; i < 6; i++) {
            x.move(i, 15);
        }
        means("six: 36 by 6", x, 0, 6, 1);
        for (int i = 0; i < 5; i++) {
            x.away(i, true);
        }
        means("just the last is not AWAY", x, 0, 6, 1);
        AheadOfPerson old = Edge.old();
        old.person(0, 0, 15);
        means("beyond STEP 9999", old, 5, 1, 1);
        means("beyond STEP 9999, by s in CELL 2", Edge.oldWithSteps(), 2, 1, 1);
        means("beyond STEP 9999, by s in CELL 3", Edge.oldWithSteps(), 3, 0, 1);
        means("beyond LAIN 99, by LAIN 101 still in CELL 0", Edge.wornOff(), 2, 1, 1);
        means("beyond LAIN 99, behind that in CELL 1", Edge.wornOff(), 3, 0, 1);
    }

    private static void noMean() {
        for (int n : new int[] {LOW, -1, 61, HIGH}) {
            Edge.same("n " + n, Edge::rich, y -> y.mean(n, 0), Edge.NO);
            Edge.same("below, n " + n, Edge::rich, y -> y.mean(n, 1), Edge.NO);
        }
        for (int part : NO_PARTS) {
            Edge.same("part " + part, Edge::rich, y -> y.mean(0, part), Edge.NO);
        }
        Edge.is("no PERSONS, above", new AheadOfPerson().mean(0, 0), Edge.NO);
        Edge.is("no PERSONS, below", new AheadOfPerson().mean(0, 1), Edge.NO);
        AheadOfPerson x = Edge.corner();
        x.away(0, true);
        Edge.is("all one is AWAY, above", x.mean(0, 0), Edge.NO);
        Edge.is("all one is AWAY, below", x.mean(60, 1), Edge.NO);
        x = Edge.made("", Edge.six(0, 0, 0));
        for (int i = 0; i < 6; i++) {
            x.away(i, true);
        }
        Edge.is("all six are AWAY", x.mean(0, 0), Edge.NO);
    }
}
