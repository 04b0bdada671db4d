import java.util.HashSet;
import java.util.Set;
import java.util.function.Supplier;
import java.util.function.ToLongFunction;

/** What the tests of boundary cases share. Each edge has a name of its own within its promise. */
final class Edge {
    static final int NONE = -1, BAD = -2, STATE = -3, FULL = -4, NEVER = -5, NO_SUCH = -999999;
    static final long NO = Long.MIN_VALUE;
    static final int LOW = Integer.MIN_VALUE, HIGH = Integer.MAX_VALUE;
    /** What is no CELL: the first on either side, and the ends of the ints. */
    static final int[] NO_CELLS = {LOW, -1, 16, HIGH};
    private static final Set<Integer> PROMISES = new HashSet<>();
    private static final Set<String> NAMES = new HashSet<>();
    private static int promise = 0;
    private static int wrong = 0;

    private Edge() {
    }

    static void promise(int number) {
        promise = number;
        PROMISES.add(number);
    }

    static void is(String edge, long got, long want) {
        String name = "promise " + promise + ": " + edge;
        if (!NAMES.add(name)) {
            wrong++;
            System.out.println(name + ": a second edge of this name");
        }
        if (got != want) {
            wrong++;
            System.out.println(name + ": answered " + got + ", due is " + want);
        }
    }

    /** The call answers as due, and all else is as in an object that never heard it. */
    static void same(String edge, Supplier<AheadOfPerson> made, ToLongFunction<AheadOfPerson> call, long want) {
        AheadOfPerson x = made.get();
        is(edge, call.applyAsLong(x), want);
        is(edge + ", and nothing changes", all(x).equals(all(made.get())) ? 1 : 0, 1);
    }

    /** Tells how it went, and fails if a promise from the first to the last one has no edge. */
    static void end(int first, int last) {
        for (int i = first; i <= last; i++) {
            if (!PROMISES.contains(i)) {
                wrong++;
                System.out.println("promise " + i + " has no edge");
            }
        }
        System.out.println(NAMES.size() + " edges of promises " + first + " to " + last + ", " + wrong + " not as due");
        if (wrong != 0) {
            System.exit(1);
        }
    }

    static AheadOfPerson feed(AheadOfPerson x, String text) {
        for (int i = 0; i < text.length(); i++) {
            x.feed(text.charAt(i));
        }
        return x;
    }

    static int town(AheadOfPerson x, String text) {
        return feed(x, text).town();
    }

    /** A TOWN (or none, if the text is empty) and PERSONS, each told as KIND, v, CELL. */
    static AheadOfPerson made(String town, int... persons) {
        AheadOfPerson x = new AheadOfPerson();
        if (!town.isEmpty() && town(x, town) != 0) {
            throw new IllegalStateException(town);
        }
        for (int i = 0; i + 2 < persons.length; i += 3) {
            if (x.person(persons[i], persons[i + 1], persons[i + 2]) != i / 3) {
                throw new IllegalStateException("person " + i / 3);
            }
        }
        return x;
    }

    /** One PERSON in the far corner, never bored: 0, 1, 2, 3, 7, 11, 15 and there it stays. */
    static AheadOfPerson corner() {
        return made("bored 0", 0, 0, 15);
    }

    static int[] six(int kind, int v, int cell) {
        int[] persons = new int[18];
        for (int i = 0; i < 18; i += 3) {
            persons[i] = kind;
            persons[i + 1] = v;
            persons[i + 2] = cell;
        }
        return persons;
    }

    /** STEP is 9999, and LAIN of its CELL 99: nobody draws THE CARPET away from CELL 0. */
    static AheadOfPerson old() {
        AheadOfPerson x = made("bored 0");
        for (int i = 0; i < 166; i++) {
            x.pass(60);
        }
        x.pass(39);
        return x;
    }

    /** STEP is 9999; PERSON 0 in CELL 3 draws it to 1, to 2, to 3 by s being 9, 0, 1, then to where it is. */
    static AheadOfPerson oldWithSteps() {
        AheadOfPerson x = old();
        town(x, "bored 0;hope 50 c=1&s=9;hope 50 c=2&s=0;hope 50 c=3&s=1");
        x.person(0, 0, 3);
        return x;
    }

    /** THE CARPET is on a CELL whose LAIN is 99 (PERSONS are SWEEPS or KINGS beside it); the TOWN holds from then on. */
    static AheadOfPerson worn(int cell, String town, int... persons) {
        AheadOfPerson x = made("bored 0;hope 99 c=" + cell, persons);
        x.lay(cell);
        x.pass(60);
        x.pass(39);
        if (x.told(2) != cell || x.told(30 + cell) != 99 || town(x, town) != 1) {
            throw new IllegalStateException(town);
        }
        return x;
    }

    /** SWEEP 0 holds it in CELL 0 till LAIN of that is 101, not 99: so behind 3 STEPS it goes to CELL 1. */
    static AheadOfPerson wornOff() {
        return worn(0, "bored 1;hope 94 c=0", 2, 0, 1);
    }

    /** Something of all, and room for more of all: 5 PERSONS, of whom 3 is a TOLD one and 2 AWAY, and an older IMAGE. */
    static AheadOfPerson rich() {
        AheadOfPerson x = made("bored 3;hope 9 c=5&s<7;shy 4 k=1|f>4", 0, 1, 15, 1, 6, 10, 4, 9, 3, 6, 4, 12);
        x.line(3, 0, 7);
        x.line(3, 3, 2);
        x.image();
        x.person(5, 5, 6);
        x.line(3, 1, 5);
        x.away(2, true);
        x.pass(7);
        x.lay(9);
        x.walk(9);
        x.walk(4);
        x.walk(13);
        x.see(9, 0);
        x.see(13, 2);
        x.plan(0, 0);
        x.plan(1, 3);
        x.plan(0, 0);
        x.book(0, 0);
        x.book(1, 3);
        x.act(2, 2, 77);
        return feed(x, "hope 1 c");
    }

    /** As much of all as there may be, but for STEPS. */
    static AheadOfPerson full() {
        AheadOfPerson x = made("bored 1", 0, 1, 15, 1, 6, 10, 2, 3, 5, 6, 4, 12);
        x.line(3, 2, 7);
        x.image();
        for (int i = 2; i < 5; i++) {
            town(x, "bored " + i);
        }
        town(x, "bored 5;hope 9 c=5&s<7");
        x.person(4, 9, 3);
        x.person(5, 5, 6);
        x.line(3, 1, 5);
        x.away(2, true);
        x.pass(5);
        x.lay(9);
        for (int i = 0; i < 10; i++) {
            x.walk(15 - i);
        }
        for (int i = 0; i < 5; i++) {
            x.see(9, 4 * i);
        }
        for (int i = 0; i < 8; i++) {
            x.plan(i % 3, 2);
            x.book(i + 6, 0);
        }
        x.act(4, 2, 77);
        for (int i = 0; i < 100; i++) {
            x.feed('0' + i % 10);
        }
        return x;
    }

    /** All that can be heard of it, by some 270 calls: the last of them change it. */
    private static String all(AheadOfPerson x) {
        StringBuilder all = new StringBuilder();
        tellNow(x, all);
        tell(all, x.met(0), x.met(1), x.looked(), x.done(0), x.done(1), x.sought(), x.on(9, 0));
        for (int i = 0; i < 8; i++) {
            tell(all, x.trace(i), x.count(7));
        }
        for (int person = 0; person < 6; person++) {
            tell(all, x.doors(person), x.firm(person, 1));
            tell(all, x.line(person, 0, 0), x.line(person, 1, 0), x.line(person, 2, 0), x.line(person, 3, 0));
        }
        for (int cell = 0; cell < 16; cell++) {
            tell(all, x.lay(cell), x.met(0), x.met(1));
        }
        tell(all, x.town(), x.told(1), x.undo());
        tellNow(x, all);
        return all.toString();
    }

    private static void tellNow(AheadOfPerson x, StringBuilder all) {
        for (int what = 0; what < 7; what++) {
            tell(all, x.count(what));
        }
        for (int what = 0; what < 4; what++) {
            tell(all, x.told(what));
        }
        for (int cell = 0; cell < 16; cell++) {
            tell(all, x.told(10 + cell), x.told(30 + cell));
        }
        for (int person = 0; person < 6; person++) {
            tell(all, x.of(person, 0), x.of(person, 1), x.of(person, 2), x.of(person, 3));
            tell(all, x.of(person, 15), x.of(person, 35));
        }
    }

    private static void tell(StringBuilder all, int... answers) {
        for (int answer : answers) {
            all.append(answer).append(' ');
        }
    }
}
