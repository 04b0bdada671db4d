/** The boundary cases that the document names of STEPS to come: promises 12 to 16. */
public final class StepEdges {
    private static final int LOW = Edge.LOW, HIGH = Edge.HIGH;
    private static final int NONE = Edge.NONE, BAD = Edge.BAD, NEVER = Edge.NEVER;

    private StepEdges() {
    }

    public static void main(String[] args) {
        Edge.promise(12);
        on();
        beyond();
        Edge.promise(13);
        finds();
        Edge.promise(14);
        soonest();
        soonestBy();
        Edge.promise(15);
        call();
        callBy();
        Edge.promise(16);
        kept();
        keptFrom();
        Edge.end(12, 16);
    }

    private static void on() {
        AheadOfPerson x = Edge.corner();
        int[] way = {0, 1, 2, 3, 7, 11, 15, 15};
        for (int n = 0; n < way.length; n++) {
            Edge.is("its CELL behind " + n, x.on(n, 0), way[n]);
            Edge.is("on how many behind " + n, x.on(n, 1), Math.min(n, 6));
        }
        Edge.is("behind 60", x.on(60, 0), 15);
        Edge.is("on how many behind 60", x.on(60, 1), 6);
        Edge.is("LAIN of CELL 15 behind 60", x.on(60, 25), 55);
        Edge.is("LAIN of CELL 0 behind 60", x.on(60, 10), 0);
        Edge.is("LAIN of CELL 1 behind 0", x.on(0, 11), 0);
        Edge.is("LAIN of CELL 1 behind 1", x.on(1, 11), 1);
        Edge.is("none of it has been", x.told(0) + x.told(2) + x.told(3), 0);
        for (int n : new int[] {LOW, -1, 61, HIGH}) {
            for (int what : new int[] {0, 1, 10, 25}) {
                Edge.same("n " + n + " by what " + what, Edge::rich, y -> y.on(n, what), BAD);
            }
        }
        for (int what : new int[] {LOW, LOW + 9, LOW + 10, -1, 2, 9, 26, 30, HIGH}) {
            Edge.same("what " + what, Edge::rich, y -> y.on(0, what), NONE);
            Edge.same("NONE ahead of BAD: what " + what, Edge::rich, y -> y.on(61, what), NONE);
        }
        for (int what : new int[] {0, 1, 10, 25}) {
            Edge.same("asking for what " + what, Edge::rich, y -> 0 * y.on(60, what), 0);
        }
        AheadOfPerson all = new AheadOfPerson();
        Edge.is("on all CELLS but one", all.on(15, 1), 15);
        Edge.is("on all CELLS", all.on(16, 1), 16);
        Edge.is("and no more", all.on(60, 1), 16);
        all.pass(1);
        Edge.is("what lay before counts, too", all.on(1, 1), 2);
        all.lay(15);
        Edge.is("what is put does not", all.on(0, 1), 1);
    }

    /** What is asked goes on beyond LAIN 99 and STEP 9999. */
    private static void beyond() {
        AheadOfPerson x = Edge.old();
        Edge.is("LAIN 99 behind 0", x.on(0, 10), 99);
        Edge.is("LAIN 100 behind 1", x.on(1, 10), 100);
        Edge.is("LAIN 159 behind 60", x.on(60, 10), 159);
        Edge.same("asking beyond 9999", Edge::old, y -> y.on(60, 0), 0);
        Edge.town(x, "bored 0;hope 50 c=1&s=9;hope 50 c=2&s=0;hope 50 c=3&s=1");
        x.person(0, 0, 0);
        Edge.is("STEP 9999: s is 9", x.on(1, 0), 1);
        Edge.is("STEP 10000: s is 0", x.on(2, 0), 2);
        Edge.is("STEP 10001: s is 1", x.on(3, 0), 3);
        // CELL 0 draws 105 less its LAIN, CELL 1 draws 4: it goes there when LAIN is 102.
        AheadOfPerson y = Edge.made("bored 1;hope 99 c=0", 0, 0, 0);
        y.pass(60);
        y.pass(38);
        Edge.is("LAIN 98 as it is", y.told(30), 98);
        Edge.is("by LAIN 101 it stays", y.on(4, 0), 0);
        Edge.is("LAIN 102 then", y.on(4, 10), 102);
        Edge.is("by LAIN 102 it leaves", y.on(5, 0), 1);
        Edge.is("as it would not by a pass", y.pass(5), 0);
        Edge.is("whose LAIN ends by 99", y.told(30), 99);
    }

    /** CELL 0 holds it by h + 2 of LAIN more than CELL 1, to which it then comes behind h + 4 STEPS. */
    private static AheadOfPerson held(int h) {
        AheadOfPerson x = Edge.made("bored 1;hope " + h + " c=0", 0, 0, 0, 0, 0, 1);
        x.away(1, true);
        return x;
    }

    private static void finds() {
        Edge.is("behind 59", held(55).finds(1), 59);
        Edge.is("behind 60", held(56).finds(1), 60);
        Edge.is("behind 61: not by then", held(57).finds(1), NEVER);
        Edge.is("it is there behind 61", held(57).on(60, 0) * 100 + held(57).on(60, 10), 60);
        Edge.is("behind 0", held(0).finds(0), 0);
        AheadOfPerson x = Edge.corner();
        Edge.is("behind 6", x.finds(0), 6);
        x.lay(14);
        Edge.is("behind 1", x.finds(0), 1);
        x.lay(15);
        Edge.is("as it is, 0", x.finds(0), 0);
        x.away(0, true);
        Edge.is("of one AWAY, 0", x.finds(0), 0);
        x.lay(0);
        Edge.is("of one AWAY, not by then", x.finds(0), NEVER);
        for (int person : new int[] {LOW, -1, 5, 6, HIGH}) {
            Edge.same("person " + person + " of five", Edge::rich, y -> y.finds(person), NONE);
        }
        Edge.is("no PERSONS at all", new AheadOfPerson().finds(0), NONE);
        Edge.is("the last of six", Edge.made("bored 0", Edge.six(0, 0, 15)).finds(5), 6);
        Edge.is("person 6 of six", Edge.made("bored 0", Edge.six(0, 0, 15)).finds(6), NONE);
        Edge.same("asking", Edge::rich, y -> 0 * y.finds(0), 0);
        Edge.same("asking, not by then", () -> held(57), y -> y.finds(1), NEVER);
        AheadOfPerson old = Edge.old();
        old.person(0, 0, 15);
        Edge.is("beyond STEP 9999", old.finds(0), 6);
        Edge.is("beyond STEP 9999, by s", Edge.oldWithSteps().finds(0), 3);
        Edge.is("beyond LAIN 99", Edge.wornOff().finds(0), 3);
    }

    /** CELLS 11 and 14 hold it: from there, as from 7, 10 and 13, it comes to CELL 15 behind h STEPS. */
    private static AheadOfPerson gated(int h) {
        return Edge.made("bored 1;shy 5 k=2;hope " + h + " c=11|c=14", 0, 0, 15, 2, 0, 0);
    }

    private static void soonest() {
        for (int cell : Edge.NO_CELLS) {
            Edge.same("cell " + cell, Edge::rich, y -> y.soonest(cell, 0), NONE);
            Edge.same("cell " + cell + " by how many", Edge::rich, y -> y.soonest(cell, 1), NONE);
        }
        for (int what : new int[] {LOW, -1, 2, 10, HIGH}) {
            Edge.same("what " + what, Edge::rich, y -> y.soonest(0, what), NONE);
        }
        Edge.same("asking which", Edge::rich, y -> 0 * y.soonest(0, 0), 0);
        Edge.same("asking by how many", Edge::rich, y -> 0 * y.soonest(15, 1), 0);
        AheadOfPerson x = Edge.corner();
        Edge.is("of CELL 15 which: 11 and 14 are alike, the first", x.soonest(15, 0), 11);
        Edge.is("of CELL 15 by how many", x.soonest(15, 1), 1);
        Edge.is("of CELL 0 which: from none, for nobody draws it there", x.soonest(0, 0), NEVER);
        Edge.is("of CELL 0 by how many", x.soonest(0, 1), NEVER);
        x.lay(15);
        Edge.is("not that CELL, though it is there now", x.soonest(15, 0), 11);
        x.lay(0);
        Edge.is("where it is now is asked like all", x.soonest(1, 0), 0);
        Edge.is("by 1", x.soonest(1, 1), 1);
        x = Edge.made("bored 0", 0, 0, 0);
        Edge.is("of CELL 0 which: 1 and 4 are alike, the first", x.soonest(0, 0), 1);
        Edge.is("of CELL 0 by 1", x.soonest(0, 1), 1);
        // CELLS 10 and 13 hold it, so just from 15 it comes to 14.
        x = Edge.made("bored 0;hope 20 c=10|c=13;hope 9 c=14", 0, 0, 15);
        Edge.is("the last CELL", x.soonest(14, 0), 15);
        Edge.is("the last CELL by 1", x.soonest(14, 1), 1);
    }

    private static void soonestBy() {
        Edge.is("by 30, the first of several", gated(30).soonest(15, 0), 7);
        Edge.is("by 30", gated(30).soonest(15, 1), 30);
        Edge.is("by 31: from none by then", gated(31).soonest(15, 0), NEVER);
        Edge.is("by 31: by none", gated(31).soonest(15, 1), NEVER);
        AheadOfPerson x = Edge.made("bored 0;shy 99 c=3");
        x.person(0, 0, 3);
        Edge.is("from none, though it is there now", soonestAt(x, 3), NEVER);
        // It waits beside CELL 3 till STEP 4, so from CELL 0 it is there as soon.
        x = Edge.made("bored 0;shy 99 c=3&s<4", 0, 0, 3);
        Edge.is("from CELL 0 as soon as from 2 and 7", x.soonest(3, 0), 0);
        Edge.is("behind 5", x.soonest(3, 1), 5);
        AheadOfPerson old = Edge.old();
        old.person(0, 0, 15);
        Edge.is("beyond STEP 9999", old.soonest(15, 0), 11);
        // CELL 15 draws it just by STEP 10001: from 3 it is beside that by then.
        old = Edge.old();
        Edge.town(old, "bored 0;shy 50 c=15&!s=1");
        old.person(0, 0, 15);
        Edge.is("beyond STEP 9999, by s which", old.soonest(15, 0), 3);
        Edge.is("beyond STEP 9999, by s how many", old.soonest(15, 1), 3);
        Edge.is("beyond LAIN 99: from CELL 0, not 2, which holds it longer", Edge.wornOff().soonest(1, 0), 0);
        Edge.is("beyond LAIN 99 by how many", Edge.wornOff().soonest(1, 1), 3);
    }

    private static int soonestAt(AheadOfPerson x, int cell) {
        x.lay(cell);
        return x.soonest(cell, 0);
    }

    private static void call() {
        for (int cell : Edge.NO_CELLS) {
            Edge.same("cell " + cell, Edge::rich, y -> y.call(cell), NONE);
        }
        Edge.same("asking", Edge::rich, y -> 0 * y.call(0), 0);
        Edge.is("no PERSONS", new AheadOfPerson().call(0), NEVER);
        AheadOfPerson x = Edge.made("bored 0", 0, 0, 2);
        x.lay(1);
        Edge.is("PERSON 0 to CELL 0", x.call(0), 0);
        x = Edge.made("bored 0", Edge.six(0, 0, 11));
        x.lay(11);
        for (int i = 0; i < 5; i++) {
            x.away(i, true);
        }
        Edge.is("PERSON 5 to CELL 15", x.call(15), 515);
        x.away(5, true);
        Edge.is("all are AWAY", x.call(15), NEVER);
        x = Edge.made("bored 0", 0, 0, 12);
        x.lay(14);
        Edge.is("it is there now: none by fewer than 0", x.call(14), NEVER);
        Edge.is("none makes it sooner than as it is", x.call(12), NEVER);
        Edge.is("to the CELL itself", x.call(15), 15);
        Edge.is("of several CELLS the first: from 0 it is as FAR to 10 as to 13", x.call(10), 0);
        x.person(0, 0, 13);
        x.away(0, true);
        Edge.is("not one who is AWAY", x.call(15), 115);
        x.away(0, false);
        AheadOfPerson y = Edge.made("bored 0", 0, 0, 0, 0, 0, 0);
        Edge.is("one alone cannot: the other draws it back", y.call(15), NEVER);
        y.away(0, true);
        Edge.is("one alone can if the other is AWAY", y.call(15), 115);
        y.away(0, false);
        y.away(1, true);
        Edge.is("the other one, too", y.call(15), 15);
        AheadOfPerson old = Edge.old();
        old.person(0, 0, 0);
        Edge.is("beyond STEP 9999", old.call(15), 15);
        Edge.is("beyond STEP 9999, by s", Edge.oldWithSteps().call(15), 15);
        // KING 0 draws it from 0 to 1, and on to 2 by LAIN 100 of CELL 1; by 99 it would stay.
        AheadOfPerson worn = Edge.worn(1, "bored 1;hope 94 c=1", 5, 1, 2);
        worn.lay(0);
        Edge.is("beyond LAIN 99 it comes as soon as it can", worn.call(2), NEVER);
    }

    private static void callBy() {
        AheadOfPerson x = gated(31);
        x.lay(11);
        Edge.is("by 30, a STEP sooner", x.call(15), 111);
        x = gated(32);
        x.lay(11);
        Edge.is("by 31: none", x.call(15), NEVER);
        // HOPER 0 draws by 1 a CELL, PERSON 1 by 2: moved to CELL 3, 1 alone makes it leave CELL 0 at once.
        x = Edge.made("bored 0", 1, 0, 0, 0, 0, 0);
        Edge.is("just 1 can", x.call(3), 103);
        x = Edge.made("bored 1", 1, 0, 0, 0, 0, 0);
        Edge.is("the fewest STEPS ahead of the first number", x.call(3), 103);
        x.move(0, 3);
        int byZero = x.finds(0);
        Edge.is("0 could, too, but by more STEPS", byZero > 3 && byZero <= 30 ? 1 : 0, 1);
        x.move(0, 0);
        x.away(1, true);
        Edge.is("0 would be the first", x.call(3), 3);
        // Whoever is beside CELL 12 is beside another CELL, too, to which it goes; one below the last ROW would not be.
        x = Edge.made("bored 0;hope 50 f=1", 0, 0, 0);
        x.lay(8);
        Edge.is("no CELL behind the last is asked", x.call(12), NEVER);
        x = Edge.made("bored 0", 0, 0, 15, 1, 0, 15, 1, 0, 15);
        Edge.is("as soon as it is: none by fewer", x.call(1), NEVER);
        Edge.is("off its way: to CELL 4, for 0 to 3 do not do", x.call(4), 4);
    }

    private static void kept() {
        for (int cell : Edge.NO_CELLS) {
            Edge.same("cell " + cell, Edge::rich, y -> y.kept(cell), NONE);
        }
        Edge.same("asking", Edge::rich, y -> 0 * y.kept(0), 0);
        Edge.is("no PERSONS, and it comes", new AheadOfPerson().kept(0), NEVER);
        Edge.is("no PERSONS, and it stays off", Edge.made("bored 0").kept(15), 0);
        AheadOfPerson x = Edge.corner();
        Edge.is("without 0", x.kept(15), 1);
        Edge.is("without anybody: the empty set", x.kept(14), 0);
        Edge.is("now, behind 0 STEPS, is not asked", x.kept(0), 0);
        Edge.is("behind 1 STEP", x.kept(1), 1);
        x.away(0, true);
        Edge.is("who is AWAY need not be in the set", x.kept(15), 0);
        Edge.is("it stays where it is, whoever is AWAY", x.kept(0), NEVER);
        Edge.is("without all six", Edge.made("bored 0", Edge.six(0, 0, 15)).kept(15), 63);
        x = Edge.made("bored 0", Edge.six(0, 0, 15));
        x.away(0, true);
        x.away(5, true);
        Edge.is("without all who are not AWAY", x.kept(15), 30);
    }

    private static void keptFrom() {
        Edge.is("behind 30, and without 0, too", keptAt(26), NEVER);
        Edge.is("behind 31", keptAt(27), 0);
        // 2 alone balances 3, as 0 and 1 together do: {2} is 4, {0, 1} is 3.
        AheadOfPerson x = Edge.made("bored 0", 1, 0, 3, 1, 0, 3, 0, 0, 3, 0, 0, 0);
        Edge.is("the fewest PERSONS ahead of the least as bits", x.kept(1), 4);
        x.away(2, true);
        Edge.is("as it is then", x.kept(1), 0);
        x.away(2, false);
        x.away(3, true);
        Edge.is("all three by then", x.kept(1), 7);
        x = Edge.made("bored 0", 0, 0, 3, 0, 0, 12, 0, 0, 3);
        Edge.is("of several the least as bits", x.kept(1), 1);
        x = Edge.made("bored 0", Edge.six(0, 0, 0));
        x.move(5, 3);
        for (int i = 1; i < 5; i++) {
            x.away(i, true);
        }
        x.away(0, true);
        Edge.is("without the last", x.kept(3), 32);
        AheadOfPerson old = Edge.old();
        old.person(0, 0, 15);
        Edge.is("beyond STEP 9999", old.kept(15), 1);
        Edge.is("beyond STEP 9999, by s", Edge.oldWithSteps().kept(3), 1);
        Edge.is("beyond LAIN 99 it comes, and without 0, too", Edge.wornOff().kept(1), NEVER);
    }

    private static int keptAt(int h) {
        return held(h).kept(1);
    }
}
