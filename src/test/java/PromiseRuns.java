import java.util.ArrayList;
import java.util.List;

/** Promise by promise: ordinary inputs, the edges that the document names, and wrong inputs. */
public final class PromiseRuns {
    private static final int NEVER = -5, LOW = Integer.MIN_VALUE, HIGH = Integer.MAX_VALUE;
    private static int wrong = 0;
    private static int calls = 0;
    private static int promise = 0;

    private static void due(String call, long got, long want) {
        calls++;
        if (got != want) {
            wrong++;
            System.out.println("promise " + promise + ": " + call + " answered " + got + ", due is " + want);
        }
    }

    private static void feed(AheadOfPerson x, String text) {
        for (int i = 0; i < text.length(); i++) {
            x.feed(text.charAt(i));
        }
    }

    private static int town(AheadOfPerson x, String text) {
        feed(x, text);
        return x.town();
    }

    /** A new object whose CARPET is never bored. */
    private static AheadOfPerson patient() {
        AheadOfPerson x = new AheadOfPerson();
        town(x, "bored 0");
        return x;
    }

    /** One PERSON in the far corner, never bored: 0, 1, 2, 3, 7, 11, 15 and there it stays. */
    private static AheadOfPerson corner() {
        AheadOfPerson x = patient();
        x.person(0, 0, 15);
        return x;
    }

    /** 0: PERSON in CELL 15, 1: PERSON in CELL 12, never bored; alone, each draws it to its CELL. */
    private static AheadOfPerson two() {
        AheadOfPerson x = corner();
        x.person(0, 0, 12);
        return x;
    }

    private static AheadOfPerson oneOfEachKind() {
        AheadOfPerson x = patient();
        for (int kind = 0; kind < 6; kind++) {
            x.person(kind, kind + 3, 5);
        }
        return x;
    }

    public static void main(String[] args) {
        List<Runnable> runs = new ArrayList<>(List.of(
            PromiseRuns::newObject, PromiseRuns::feeds, PromiseRuns::towns, PromiseRuns::persons, PromiseRuns::of,
            PromiseRuns::lines, PromiseRuns::moves, PromiseRuns::aways, PromiseRuns::lays, PromiseRuns::told));
        runs.addAll(List.of(
            PromiseRuns::passes, PromiseRuns::on, PromiseRuns::finds, PromiseRuns::soonest, PromiseRuns::call,
            PromiseRuns::kept, PromiseRuns::walks, PromiseRuns::met, PromiseRuns::sees, PromiseRuns::doors));
        runs.addAll(List.of(
            PromiseRuns::firm, PromiseRuns::sought, PromiseRuns::odds, PromiseRuns::mean, PromiseRuns::plans,
            PromiseRuns::done, PromiseRuns::books, PromiseRuns::looked, PromiseRuns::acts, PromiseRuns::trace));
        runs.addAll(List.of(PromiseRuns::as, PromiseRuns::images, PromiseRuns::undo, PromiseRuns::counts));
        for (Runnable run : runs) {
            promise++;
            run.run();
        }
        System.out.println(promise + " promises, " + calls + " answers, " + wrong + " not as due");
        if (wrong != 0 || promise != 34) {
            System.exit(1);
        }
    }

    private static void newObject() {
        AheadOfPerson x = new AheadOfPerson();
        for (int what = 0; what <= 7; what++) {
            due("count(" + what + ")", x.count(what), 0);
        }
        due("told(0)", x.told(0), 0);
        due("told(1)", x.told(1), 2);
        due("told(2)", x.told(2), 0);
        due("told(3)", x.told(3), 0);
        due("of(0, 0)", x.of(0, 0), -999999);
        due("finds(0)", x.finds(0), -1);
        due("odds(0, 0, 0)", x.odds(0, 0, 0), Long.MIN_VALUE);
        due("undo()", x.undo(), -3);
        due("NONE", AheadOfPerson.NONE, -1);
        due("BAD", AheadOfPerson.BAD, -2);
        due("STATE", AheadOfPerson.STATE, -3);
        due("FULL", AheadOfPerson.FULL, -4);
        due("NO", AheadOfPerson.NO, Long.MIN_VALUE);
    }

    private static void feeds() {
        AheadOfPerson x = new AheadOfPerson();
        due("feed(0)", x.feed(0), 1);
        due("feed(127)", x.feed(127), 2);
        due("feed(-1)", x.feed(-1), -2);
        due("feed(128)", x.feed(128), -2);
        due("feed(LOW)", x.feed(LOW), -2);
        due("feed(HIGH)", x.feed(HIGH), -2);
        due("count(6)", x.count(6), 2);
        for (int i = 3; i <= 100; i++) {
            due("feed('x')", x.feed('x'), i);
        }
        due("feed by 100", x.feed('x'), -4);
        due("feed(-1) by 100", x.feed(-1), -2);
        due("count(6) by 100", x.count(6), 100);
    }

    private static void towns() {
        faults();
        lastBored();
        oneBehindAnother();
        AheadOfPerson x = new AheadOfPerson();
        due("town bored 7", town(x, "bored 7"), 0);
        due("told(1)", x.told(1), 7);
        due("count(6)", x.count(6), 0);
        due("a fault", town(x, "bored x"), -16);
        due("the one that held holds", x.told(1), 7);
        due("count(1)", x.count(1), 1);
        due("count(6) behind a fault", x.count(6), 0);
        due("town hope 1 p=1", town(x, "hope 1 p=1"), 1);
        due("BORED without", x.told(1), 2);
        due("third", town(x, "bored 3"), 2);
        due("fourth", town(x, "bored 4"), 3);
        due("fifth", town(x, "bored 5"), 4);
        feed(x, "?");
        due("FULL, ahead of a fault", x.town(), -4);
        due("FULL, ahead of all, again", x.town(), -4);
        due("THE TAPE stays", x.count(6), 1);
        due("told(1) behind FULL", x.told(1), 5);
    }

    /** What was read ahead of it, a FAULT above all, leaves nothing in the next. */
    private static void oneBehindAnother() {
        AheadOfPerson x = new AheadOfPerson();
        x.person(0, 0, 0);
        due("hope 9 c=0", town(x, "hope 9 c=0"), 0);
        due("LURE", x.of(0, 10), 15);
        due("hope 1 c=0", town(x, "hope 1 c=0"), 1);
        due("LURE by the newest alone", x.of(0, 10), 7);
        due("a fault at 13", town(x, "hope 9 !c=1;("), -22);
        due("LURE by the one that held", x.of(0, 10), 7);
        due("open at the end", town(x, "shy 1 (((((p=1"), -24);
        due("open at the end again", town(x, "shy 1 !!(!(p=1|p=2&"), -29);
        due("five open", town(x, "shy 1 (((((p=0)))))&!!!!!p=1"), 2);
        due("LURE by the newest", x.of(0, 10), 5);
        due("no ( open", town(x, "shy 1 p=0)"), -19);
        due("bored in a fault", town(x, "bored 9;"), -18);
        due("BORED without", x.told(1), 2);
        due("hope 2 s=0", town(x, "hope 2 s=0"), 3);
        due("LURE at STEP 0", x.of(0, 10), 8);
        x.pass(1);
        due("LURE at STEP 1", x.of(0, 10), 6);
    }

    private static void fault(String text, int at) {
        AheadOfPerson x = new AheadOfPerson();
        due("town of '" + text + "'", town(x, text), at < 0 ? 0 : -10 - at);
    }

    private static void faults() {
        fault("", 0);
        fault("x", 0);
        fault(" bored 1", 0);
        fault("bore", 4);
        fault("Bored 1", 0);
        fault("bored", 5);
        fault("bored ", 6);
        fault("bored  1", 6);
        fault("bored 0", -1);
        fault("bored 00", 7);
        fault("bored 10", -1);
        fault("bored 99", -1);
        fault("bored 100", 8);
        fault("bored 1 ", 7);
        fault("bored 1;", 8);
        fault("bored 1;;", 8);
        fault("bored 1; shy 1 p=1", 8);
        fault("bored 1 p=1", 7);
        fault("hope 1", 6);
        fault("hope 1;", 6);
        fault("hope 1 ", 7);
        fault("hope 1  p=1", 7);
        fault("hope 1 q=1", 7);
        fault("hope 1 p", 8);
        fault("hope 1 p!", 8);
        fault("hope 1 p=", 9);
        fault("hope 1 p=a", 9);
        fault("hope 1 p=05", 10);
        fault("hope 1 p=123", 11);
        fault("hope 1 p=12", -1);
        fault("hope 1 p=1)", 10);
        fault("hope 1 p=1&", 11);
        fault("hope 1 p=1 &k=1", 10);
        fault("hope 1 (p=1", 11);
        fault("hope 1 (p=1;", 11);
        fault("hope 1 ()", 8);
        fault("hope 1 (p=1)(", 12);
        fault("hope 1 !p=1!", 11);
        fault("shy 1 ((((( p=1", 11);
        fault("shy 1 (((((p=1)))))", -1);
        fault("shy 1 ((((((p=1))))))", 11);
        fault("shy 1 !!!!!p=1", -1);
        fault("shy 1 !!!!!!p=1", 11);
        fault("shy 1 !!!!(p=1)", -1);
        fault("shy 1 !!!!(!p=1)", 11);
        fault("shy 1 !!!!!p=1&!!!!!p=1", -1);
        fault("shy 1 !(!(!p=1))&!!!!!k=1", -1);
        fault("shy 1 (!!!!p=1&!!!!p=1)|!!!!!p=2", -1);
        fault("shy 1 !(!!!p=1&!!!!p=1)", 18);
        fault("bored 1;bored 1;bored 1;bored 1;bored 1;bored 1;bored 1;bored 1;bored 1;bored 1", -1);
        fault("bored 1;bored 1;bored 1;bored 1;bored 1;bored 1;bored 1;bored 1;bored 1;bored 1;b", 79);
        fault("hope 1 p<1|k>2&v=3;shy 20 !(f>1|c<3)&s=5", -1);
    }

    private static void lastBored() {
        AheadOfPerson x = new AheadOfPerson();
        town(x, "bored 7;hope 1 p=0;bored 4;shy 2 p=1");
        due("the last n of bored", x.told(1), 4);
        due("no TOWN for told", town(x, "bored 1;!"), -18);
        due("still", x.told(1), 4);
    }

    private static void persons() {
        AheadOfPerson x = new AheadOfPerson();
        due("kind -1", x.person(-1, 0, 0), -1);
        due("kind 7", x.person(7, 0, 0), -1);
        due("cell -1", x.person(0, 0, -1), -1);
        due("cell 16", x.person(0, 0, 16), -1);
        due("v -1", x.person(0, -1, 0), -2);
        due("v 10", x.person(0, 10, 0), -2);
        due("NONE ahead of BAD", x.person(0, 10, 16), -1);
        due("NONE ahead of BAD by kind", x.person(LOW, HIGH, 0), -1);
        for (int i = 0; i < 6; i++) {
            due("person", x.person(i + 1, i, 15 - i), i);
        }
        due("FULL", x.person(0, 0, 0), -4);
        due("BAD ahead of FULL", x.person(0, 10, 0), -2);
        due("NONE ahead of FULL", x.person(7, 0, 0), -1);
        due("count(0)", x.count(0), 6);
        for (int i = 0; i < 6; i++) {
            due("KIND", x.of(i, 0), i + 1);
            due("v", x.of(i, 1), i);
            due("CELL", x.of(i, 2), 15 - i);
            due("AWAY", x.of(i, 3), 0);
        }
    }

    private static void of() {
        AheadOfPerson x = oneOfEachKind();
        int[][] tugs = {
            // CELL 5 itself, CELL 6 (1 FAR), CELL 7 (2 FAR), CELL 15 (4 FAR)
            {6, 4, 2, -2}, {10, 9, 8, 6}, {0, 6, 0, 0}, {3, 2, 1, -1}, {26, 12, 11, 9}, {8, 6, 0, 0}};
        for (int kind = 0; kind < 6; kind++) {
            due("TUG at 5 of KIND " + kind, x.of(kind, 35), tugs[kind][0]);
            due("TUG at 6 of KIND " + kind, x.of(kind, 36), tugs[kind][1]);
            due("TUG at 7 of KIND " + kind, x.of(kind, 37), tugs[kind][2]);
            due("TUG at 15 of KIND " + kind, x.of(kind, 45), tugs[kind][3]);
            due("LURE of KIND " + kind, x.of(kind, 10), 6);
        }
        for (int what : new int[] {-1, 4, 9, 26, 29, 46, LOW, HIGH}) {
            due("of(0, " + what + ")", x.of(0, what), -999999);
        }
        due("of(-1, 0)", x.of(-1, 0), -999999);
        due("of(6, 0)", x.of(6, 0), -999999);
        due("of(HIGH, 0)", x.of(HIGH, 0), -999999);
        lures();
        halves();
        tests();
    }

    private static void lures() {
        AheadOfPerson x = new AheadOfPerson();
        x.person(4, 3, 10);
        town(x, "hope 9 c=0;shy 20 c<2;hope 3 c>14;bored 9;hope 30 c=15");
        due("LURE by hope and shy", x.of(0, 10), -5);
        due("LURE below 0", x.of(0, 11), -14);
        due("LURE by neither", x.of(0, 12), 6);
        due("LURE by two hopes", x.of(0, 25), 39);
        x.away(0, true);
        due("LURE of one AWAY", x.of(0, 25), 39);
        due("TUG of one AWAY", x.of(0, 45), 0);
        due("whether it is AWAY", x.of(0, 3), 1);
        x.away(0, false);
        due("TUG of one who is back", x.of(0, 45), 39 + 3 - 2);
    }

    private static void halves() {
        AheadOfPerson x = new AheadOfPerson();
        x.person(3, 0, 0);
        x.person(6, 0, 0);
        town(x, "shy 7 c=0;shy 9 c=1");
        due("half of -1, cut toward 0", x.of(0, 30), 0);
        due("half of -5, cut toward 0", x.of(0, 31), -2);
        x.line(1, 0, 9);
        x.line(1, 1, 4);
        due("TOLD: LINE more", x.of(1, 30), 9);
        due("TOLD: half and LINE", x.of(1, 31), 7);
        x.pass(1);
        due("TOLD: LINE at STEP 1", x.of(1, 30), 4);
        x.pass(1);
        due("TOLD: LINE at STEP 2", x.of(1, 30), 0);
        x.pass(2);
        due("TOLD: LINE at STEP 4", x.of(1, 30), 9);
    }

    private static int lureIf(String expression, int cell) {
        AheadOfPerson x = new AheadOfPerson();
        x.person(0, 4, 3);
        x.person(5, 8, 10);
        town(x, "hope 1 " + expression);
        x.pass(12);
        return x.of(1, 10 + cell) - 6;
    }

    private static void holds(String expression, int cell, int want) {
        due(expression + " of 1 (KING, v 8, CELL 10, STEP 12) and CELL " + cell, lureIf(expression, cell), want);
    }

    private static void tests() {
        holds("p=1", 0, 1);
        holds("p=0", 0, 0);
        holds("p>0", 0, 1);
        holds("p<1", 0, 0);
        holds("k=5", 0, 1);
        holds("k<5", 0, 0);
        holds("k>4", 0, 1);
        holds("v=8", 0, 1);
        holds("v>8", 0, 0);
        holds("v<9", 0, 1);
        holds("f=0", 10, 1);
        holds("f<1", 9, 0);
        holds("f=4", 0, 1);
        holds("f>3", 0, 1);
        holds("c=7", 7, 1);
        holds("c=7", 8, 0);
        holds("c<10", 9, 1);
        holds("c>10", 10, 0);
        holds("c>10", 11, 1);
        holds("s=2", 0, 1);
        holds("s=12", 0, 0);
        holds("s>1", 0, 1);
        holds("s<2", 0, 0);
        holds("c<0", 0, 0);
        holds("c>99", 15, 0);
        holds("c<99", 15, 1);
        holds("!p=1", 0, 0);
        holds("!!p=1", 0, 1);
        holds("p=1|p=0&p=0", 0, 1);
        holds("(p=1|p=0)&p=0", 0, 0);
        holds("p=0&p=0|p=1", 0, 1);
        holds("p=0&(p=0|p=1)", 0, 0);
        holds("!p=0&p=0", 0, 0);
        holds("!(p=0&p=0)", 0, 1);
        holds("!p=1|p=1", 0, 1);
        holds("!(p=1|p=1)", 0, 0);
        holds("!(!(c=3|c=4)&!(c=5))", 5, 1);
        holds("!(!(c=3|c=4)&!(c=5))", 6, 0);
        String deep = "c=15|p=1&(c=14|p=1&(c=13|p=1&(c=12|p=1&(c=11|p=1&(c=10|p=1&c=9)))))";
        for (int c = 0; c < 16; c++) {
            holds(deep, c, c > 8 ? 1 : 0);
        }
        holds("p=1|!(p=1|!(p=1|!p=0&p=1)&p=1)&p=1", 0, 1);
        holds("p=0|!(p=0|!(p=0|p=0&p=1)&p=1)&p=1", 0, 0);
        holds("p=0|!(p=0|!(p=0|p=1&p=1)&p=1)&p=1", 0, 1);
    }

    private static void lines() {
        AheadOfPerson x = new AheadOfPerson();
        x.person(6, 1, 0);
        x.person(3, 1, 0);
        for (int k = 0; k < 4; k++) {
            due("at first", x.line(0, k, k + 5), 0);
        }
        for (int k = 0; k < 4; k++) {
            due("what it was", x.line(0, k, 0), k + 5);
        }
        due("n 9", x.line(0, 0, 9), 0);
        due("n 10", x.line(0, 0, 10), -2);
        due("n -1", x.line(0, 0, -1), -2);
        due("k -1", x.line(0, -1, 0), -1);
        due("k 4", x.line(0, 4, 0), -1);
        due("person 2", x.line(2, 0, 0), -1);
        due("person -1", x.line(-1, 0, 0), -1);
        due("STATE", x.line(1, 0, 0), -3);
        due("BAD ahead of STATE", x.line(1, 0, 10), -2);
        due("NONE ahead of BAD", x.line(1, 4, 10), -1);
        due("refusals change nothing", x.line(0, 0, 0), 9);
    }

    private static void moves() {
        AheadOfPerson x = corner();
        due("where it was", x.move(0, 3), 15);
        due("its CELL", x.of(0, 2), 3);
        due("again", x.move(0, 0), 3);
        due("cell 16", x.move(0, 16), -1);
        due("cell -1", x.move(0, -1), -1);
        due("person 1", x.move(1, 0), -1);
        due("person -1", x.move(-1, 0), -1);
        due("refusals change nothing", x.of(0, 2), 0);
        due("TUG goes by the new CELL", x.of(0, 45), 6 - 12);
        due("and so does THE CARPET", x.pass(20), 0);
    }

    private static void aways() {
        AheadOfPerson x = two();
        due("was not", x.away(1, true), 0);
        due("was", x.away(1, true), 1);
        due("the other is not", x.of(0, 3), 0);
        due("was, and is not", x.away(1, false), 1);
        due("is not", x.of(1, 3), 0);
        due("was not, and is not", x.away(1, false), 0);
        due("person 2", x.away(2, true), -1);
        due("person -1", x.away(-1, false), -1);
        due("person HIGH", x.away(HIGH, true), -1);
    }

    private static void lays() {
        AheadOfPerson x = new AheadOfPerson();
        due("where it was", x.lay(15), 0);
        due("again", x.lay(5), 15);
        due("its CELL", x.told(2), 5);
        due("LAIN stays", x.told(3), 0);
        due("STEP stays", x.told(0), 0);
        due("cell 16", x.lay(16), -1);
        due("cell -1", x.lay(-1), -1);
        due("refusals change nothing", x.told(2), 5);
    }

    private static void told() {
        AheadOfPerson x = two();
        town(x, "bored 3");
        due("DRAW of 0", x.told(10), (6 - 12) + (6 - 6));
        due("DRAW of 15", x.told(25), 6 + (6 - 6));
        x.pass(2);
        due("STEP", x.told(0), 2);
        due("BORED", x.told(1), 3);
        due("CELL", x.told(2), 8);
        due("on how many", x.told(3), 2);
        due("LAIN of 4", x.told(34), 1);
        due("LAIN of 8", x.told(38), 1);
        due("LAIN of 0", x.told(30), 0);
        due("DRAW less BORED times LAIN", x.told(18), (6 - 8) + (6 - 2) - 3);
        x.away(1, true);
        due("DRAW without one", x.told(18), (6 - 8) - 3);
        AheadOfPerson y = new AheadOfPerson();
        y.pass(1);
        due("on one, CELL 0", y.told(3), 1);
        due("LAIN of 0 now", y.told(30), 1);
        due("DRAW of 0 now", y.told(10), -2);
        for (int what : new int[] {-1, 4, 9, 26, 29, 46, LOW, HIGH}) {
            due("told(" + what + ")", x.told(what), -999999);
        }
    }

    private static void passes() {
        AheadOfPerson x = corner();
        due("pass(0)", x.pass(0), 0);
        due("STEP behind pass(0)", x.told(0), 0);
        int[] way = {1, 2, 3, 7, 11, 15, 15};
        for (int cell : way) {
            due("pass(1)", x.pass(1), cell);
        }
        due("LAIN of 15", x.told(45), 2);
        due("LAIN of 3", x.told(33), 1);
        due("pass(-1)", x.pass(-1), -2);
        due("pass(61)", x.pass(61), -2);
        due("refusals change nothing", x.told(0), 7);
        x.pass(60);
        due("LAIN of 15 later", x.told(45), 62);
        x.pass(60);
        due("LAIN goes to 99 at most", x.told(45), 99);
        for (int i = 127; i + 60 <= 9999; i += 60) {
            x.pass(60);
        }
        due("STEP", x.told(0), 9967);
        due("beyond 9999", x.pass(33), -3);
        due("BAD ahead of STATE", x.pass(61), -2);
        due("STEP stays", x.told(0), 9967);
        due("up to 9999", x.pass(32), 15);
        due("one more", x.pass(1), -3);
        due("none more", x.pass(0), 15);
        bored();
    }

    /** Nobody draws it: it goes where it lay least, the first by number of several. */
    private static void bored() {
        AheadOfPerson x = new AheadOfPerson();
        int[] way = {0, 1, 2, 3, 7, 6, 5, 4, 8, 9, 10, 11, 15, 14, 13, 12, 8};
        for (int cell : way) {
            due("bored pass(1)", x.pass(1), cell);
        }
    }

    private static void on() {
        AheadOfPerson x = corner();
        int[] way = {0, 1, 2, 3, 7, 11, 15, 15};
        for (int n = 0; n < way.length; n++) {
            due("on(" + n + ", 0)", x.on(n, 0), way[n]);
            due("on(" + n + ", 1)", x.on(n, 1), Math.min(n, 6));
        }
        due("on(60, 0)", x.on(60, 0), 15);
        due("on(60, 25)", x.on(60, 25), 55);
        due("on(6, 12)", x.on(6, 12), 1);
        due("on(6, 10)", x.on(6, 10), 0);
        due("on(61, 0)", x.on(61, 0), -2);
        due("on(-1, 0)", x.on(-1, 0), -2);
        for (int what : new int[] {-1, 2, 9, 26, LOW, HIGH}) {
            due("on(0, " + what + ")", x.on(0, what), -1);
            due("on(61, " + what + ")", x.on(61, what), -1);
        }
        due("nothing is changed", x.told(0) + x.told(2) + x.told(3), 0);
        due("CELL 0 counts", new AheadOfPerson().on(1, 1), 1);
        beyond();
    }

    /** What is asked goes on beyond LAIN 99 and STEP 9999. */
    private static void beyond() {
        AheadOfPerson x = corner();
        for (int i = 0; i < 166; i++) {
            x.pass(60);
        }
        x.pass(39);
        due("STEP", x.told(0), 9999);
        due("LAIN now", x.told(45), 99);
        due("LAIN beyond 99", x.on(60, 25), 159);
        due("LAIN now, still", x.told(45), 99);
        town(x, "bored 1;hope 99 c=15");
        x.pass(0);
        // CELL 15 draws 105 less its LAIN, CELL 14 draws 4: it goes there when LAIN is 101.
        due("it is there for some time", x.on(2, 0), 15);
        due("LAIN then", x.on(2, 25), 101);
        due("it leaves", x.on(3, 0), 14);
        due("seven CELLS", x.on(3, 1), 7);
        x.plan(0, 0);
        x.plan(0, 0);
        due("a PLAN, too", x.done(0), 15);
        x.plan(0, 0);
        due("a PLAN leaves, too", x.done(0), 14);
    }

    /** CELL 0 holds it by h + 2 of LAIN more than CELL 1, to which it then comes behind h + 4 STEPS. */
    private static AheadOfPerson held(int h) {
        AheadOfPerson x = new AheadOfPerson();
        town(x, "bored 1;hope " + h + " c=0");
        x.person(0, 0, 0);
        x.person(0, 0, 1);
        x.away(1, true);
        return x;
    }

    /** CELLS 11 and 14 hold it: from there it comes to CELL 15 behind h STEPS. */
    private static AheadOfPerson gated(int h) {
        AheadOfPerson x = new AheadOfPerson();
        town(x, "bored 1;shy 5 k=2;hope " + h + " c=11|c=14");
        x.person(0, 0, 15);
        x.person(2, 0, 0);
        return x;
    }

    private static void finds() {
        due("behind 30", held(26).finds(1), 30);
        due("behind 60", held(56).finds(1), 60);
        due("behind 61: not by then", held(57).finds(1), NEVER);
        AheadOfPerson x = two();
        x.person(0, 0, 0);
        due("itself, now", x.finds(2), 0);
        x.away(1, true);
        x.away(2, true);
        due("by its way", x.finds(0), 6);
        due("not by then", x.finds(1), NEVER);
        due("person 3", x.finds(3), -1);
        due("person -1", x.finds(-1), -1);
        x.lay(12);
        due("one who is AWAY", x.finds(1), 0);
        due("nothing is changed", x.told(0), 0);
        late();
    }

    /** HOPE that begins with STEP 9 alone: the last STEP of the way is gone late. */
    private static void late() {
        AheadOfPerson x = new AheadOfPerson();
        town(x, "bored 0;hope 50 c=1&s=9");
        x.person(0, 0, 4);
        x.lay(4);
        due("it stays by who draws it", x.on(9, 0), 4);
        x.lay(0);
        x.person(0, 0, 1);
        x.away(1, true);
        due("to CELL 4 first, and too far from CELL 1 then", x.finds(1), NEVER);
        town(x, "bored 0;hope 50 c=0&!s=9;hope 50 c=1&s=9");
        due("behind 10 STEPS", x.finds(1), 10);
    }

    private static void soonest() {
        AheadOfPerson x = corner();
        due("which", x.soonest(15, 0), 11);
        due("by how many", x.soonest(15, 1), 1);
        due("from none", x.soonest(0, 0), NEVER);
        due("from none, by how many", x.soonest(0, 1), NEVER);
        due("just from 6, and 3: the first", x.soonest(7, 0), 3);
        due("behind 30, which: 7 is as soon as 11", gated(30).soonest(15, 0), 7);
        due("behind 30", gated(30).soonest(15, 1), 30);
        due("behind 31: from none by then", gated(31).soonest(15, 0), NEVER);
        due("from the last alone", corner().soonest(14, 1), 1);
        due("cell 16", x.soonest(16, 0), -1);
        due("cell -1", x.soonest(-1, 1), -1);
        due("what 2", x.soonest(0, 2), -1);
        due("what -1", x.soonest(0, -1), -1);
        due("nothing is changed", x.told(0) + x.told(2) + x.told(3), 0);
        AheadOfPerson y = new AheadOfPerson();
        town(y, "bored 0;shy 99 c=3&s<4");
        y.person(0, 0, 3);
        // It waits in CELL 2 or 7 till STEP 4, from wherever it came there.
        due("from 0 as soon as from 2", y.soonest(3, 0), 0);
        due("by 5 STEPS", y.soonest(3, 1), 5);
        town(y, "bored 0;shy 99 c=3");
        due("from none", y.soonest(3, 0), NEVER);
        y.lay(3);
        due("from none but itself", y.soonest(3, 1), NEVER);
    }

    private static void call() {
        AheadOfPerson x = patient();
        x.person(0, 0, 12);
        x.lay(14);
        due("the one to the CELL itself", x.call(15), 15);
        due("it is there now", x.call(14), NEVER);
        due("none makes it sooner", x.call(12), NEVER);
        x.away(0, true);
        due("not one who is AWAY", x.call(15), NEVER);
        x.person(0, 0, 13);
        due("100 times its number", x.call(15), 115);
        x.away(0, false);
        due("either: the first", x.call(10), 2);
        AheadOfPerson y = two();
        y.lay(1);
        due("0 to CELL 0", y.call(0), 0);
        y = patient();
        y.person(0, 0, 0);
        y.person(0, 0, 0);
        due("both alone would do, not one", y.call(15), NEVER);
        y = gated(31);
        y.lay(11);
        due("behind 30, a STEP sooner", y.call(15), 111);
        y = gated(32);
        y.lay(11);
        due("behind 31: none", y.call(15), NEVER);
        due("cell 16", x.call(16), -1);
        due("cell -1", x.call(-1), -1);
        due("nothing is changed", x.of(0, 2) * 100 + x.of(1, 2), 1213);
        due("nor THE CARPET", x.told(2), 14);
    }

    private static void kept() {
        AheadOfPerson x = corner();
        due("without 0 it stays", x.kept(15), 1);
        due("now is not asked", x.kept(0), 0);
        x.person(0, 0, 15);
        due("both", x.kept(15), 3);
        x.away(0, true);
        due("one is AWAY as it is", x.kept(15), 2);
        x.away(1, true);
        due("both are", x.kept(15), 0);
        due("it stays on 0 whatever they do", x.kept(0), NEVER);
        x.person(0, 0, 12);
        due("one of three", x.kept(12), 4);
        due("cell 16", x.kept(16), -1);
        due("cell -1", x.kept(-1), -1);
        due("nothing is changed", x.of(0, 3) * 100 + x.of(1, 3) * 10 + x.of(2, 3), 110);
        AheadOfPerson y = patient();
        y.person(0, 0, 3);
        y.person(0, 0, 12);
        y.person(0, 0, 3);
        due("of several the least as bits", y.kept(1), 1);
        due("each set from now on", two().kept(8), 2);
        due("behind 30, and without 0, too", held(26).kept(1), NEVER);
        due("behind 31", held(27).kept(1), 0);
        due("behind 1", corner().kept(1), 1);
    }

    private static void walks() {
        AheadOfPerson x = new AheadOfPerson();
        for (int i = 1; i <= 10; i++) {
            due("walk(" + i + ")", x.walk(i), i);
        }
        due("FULL", x.walk(0), -4);
        due("NONE ahead of FULL", x.walk(16), -1);
        due("cell -2", x.walk(-2), -1);
        due("count(2)", x.count(2), 10);
        due("none then", x.walk(-1), 0);
        due("count(2) of none", x.count(2), 0);
        due("again", x.walk(15), 1);
        due("and 0", x.walk(0), 2);
    }

    private static void met() {
        AheadOfPerson x = corner();
        due("no WALK", x.met(0), NEVER);
        due("no WALK to follow", x.met(1), NEVER);
        x.walk(5);
        x.walk(2);
        due("not yet", x.met(0), NEVER);
        due("FOLLOWED one STEP behind the last", x.met(1), 2);
        x.walk(3);
        x.walk(3);
        due("MET", x.met(0), 3);
        due("FOLLOWED first", x.met(1), 2);
        x.walk(-1);
        x.walk(2);
        x.walk(0);
        x.walk(7);
        x.walk(7);
        x.walk(7);
        due("MET later", x.met(0), 4);
        due("FOLLOWED later", x.met(1), 4);
        x.walk(-1);
        x.walk(0);
        due("MET now", x.met(0), 0);
        due("FOLLOWED not now", x.met(1), NEVER);
        x.walk(-1);
        x.walk(1);
        due("FOLLOWED by one CELL", x.met(1), 1);
        due("MET by none", x.met(0), NEVER);
        due("what 2", x.met(2), -1);
        due("what -1", x.met(-1), -1);
        due("nothing is changed", x.told(0) + x.told(2) + x.told(3), 0);
    }

    private static void sees() {
        AheadOfPerson x = new AheadOfPerson();
        due("cell 16", x.see(16, 0), -1);
        due("cell -2", x.see(-2, 0), -1);
        due("n 21", x.see(0, 21), -2);
        due("n -1", x.see(0, -1), -2);
        due("NONE ahead of BAD", x.see(16, 21), -1);
        due("n 20", x.see(15, 20), 1);
        for (int i = 2; i <= 5; i++) {
            due("see", x.see(0, 0), i);
        }
        due("FULL", x.see(0, 0), -4);
        due("BAD ahead of FULL", x.see(0, 21), -2);
        due("count(3)", x.count(3), 5);
        due("none then, whatever", x.see(-1, HIGH), 0);
        due("count(3) of none", x.count(3), 0);
    }

    private static void doors() {
        AheadOfPerson x = corner();
        due("nothing SEEN: all", x.doors(0), 65535);
        x.see(3, 3);
        due("3 behind 3 STEPS", x.doors(0), 1 << 3 | 1 << 7 | 1 << 11 | 1 << 15);
        x.see(15, 6);
        due("and 15 behind 6", x.doors(0), 1 << 15);
        x.see(15, 20);
        due("and 15 behind 20", x.doors(0), 1 << 15);
        x.see(14, 20);
        due("and not", x.doors(0), 0);
        due("person 1", x.doors(1), -1);
        due("person -1", x.doors(-1), -1);
        x.see(-1, 0);
        x.see(0, 0);
        due("it is there now", x.doors(0), 65535);
        x.see(1, 0);
        due("it cannot be on both", x.doors(0), 0);
        due("nothing is changed", x.of(0, 2), 15);
    }

    private static void firm() {
        AheadOfPerson x = patient();
        // KING: 6 for the CELL 0 where it lies, v for its own.
        x.person(5, 2, 1);
        due("nothing SEEN: all ten", x.firm(0, 0), 10);
        due("the least of all", x.firm(0, 1), 0);
        x.see(1, 1);
        due("how many", x.firm(0, 0), 3);
        due("the least", x.firm(0, 1), 7);
        x.see(0, 1);
        due("how many, none", x.firm(0, 0), 0);
        due("the least, none", x.firm(0, 1), NEVER);
        due("what 2", x.firm(0, 2), -1);
        due("what -1", x.firm(0, -1), -1);
        due("person 1", x.firm(1, 0), -1);
        due("person -1", x.firm(-1, 0), -1);
        due("nothing is changed", x.of(0, 1), 2);
    }

    private static void sought() {
        AheadOfPerson x = two();
        due("nothing SEEN: all", x.sought(), 3);
        x.see(15, 6);
        due("the one", x.sought(), 1);
        x.away(0, true);
        due("AWAY or not", x.sought(), 1);
        x.see(-1, 0);
        x.see(12, 3);
        due("the other", x.sought(), 2);
        x.see(11, 3);
        due("none", x.sought(), 0);
        due("nothing is changed", x.of(0, 3) * 10 + x.of(1, 3), 10);
        due("no PERSONS", new AheadOfPerson().sought(), 0);
    }

    private static void odds() {
        AheadOfPerson x = two();
        due("above", x.odds(15, 6, 0), 1);
        due("below", x.odds(15, 6, 1), 2);
        due("12 above", x.odds(12, 60, 0), 1);
        due("12 below", x.odds(12, 60, 1), 2);
        due("each from now on, above", x.odds(3, 3, 0), 1);
        due("each from now on, below", x.odds(3, 3, 1), 2);
        due("just one, above", corner().odds(0, 60, 0), 1);
        due("just one, below", corner().odds(15, 60, 1), 1);
        due("surely above", x.odds(0, 0, 0), 1);
        due("surely below", x.odds(0, 0, 1), 1);
        due("never above", x.odds(3, 0, 0), 0);
        due("never below", x.odds(3, 0, 1), 1);
        x.away(1, true);
        due("one is AWAY already: above", x.odds(0, 6, 0), 1);
        due("one is AWAY already: below", x.odds(0, 6, 1), 2);
        x.person(0, 0, 15);
        x.away(1, false);
        x.away(2, true);
        x.person(0, 0, 0);
        x.away(3, true);
        // Without 0 it comes to 12; drawn by 0 and 1, too, for they draw alike on the row between them.
        due("three of four, above", x.odds(12, 6, 0), 3);
        due("three of four, below", x.odds(12, 6, 1), 4);
        x.move(2, 15);
        x.away(0, true);
        x.away(1, true);
        x.away(2, false);
        due("three of four come to 15, above", x.odds(15, 6, 0), 3);
        x.away(3, false);
        x.away(2, true);
        x.move(3, 12);
        due("in lowest terms, above", x.odds(0, 6, 0), 1);
        due("in lowest terms, below", x.odds(0, 6, 1), 4);
        x.away(0, false);
        x.away(3, true);
        x.person(0, 0, 15);
        x.away(4, true);
        x.person(0, 0, 15);
        x.away(5, true);
        due("five of six, above", x.odds(15, 6, 0), 5);
        due("five of six, below", x.odds(15, 6, 1), 6);
        x.away(1, false);
        x.away(2, false);
        due("two of six are a third, below", x.odds(12, 6, 1), 3);
        for (long no : new long[] {
            x.odds(16, 0, 0), x.odds(-1, 0, 0), x.odds(0, -1, 0), x.odds(0, 61, 0), x.odds(0, 0, 2), x.odds(0, 0, -1),
            new AheadOfPerson().odds(0, 0, 0)}) {
            due("NO", no, Long.MIN_VALUE);
        }
        due("nothing is changed", x.of(0, 3) + x.of(1, 3) + x.of(2, 3) + x.told(0), 0);
    }

    private static void mean() {
        AheadOfPerson x = two();
        due("above", x.mean(0, 0), 9);
        due("below", x.mean(0, 1), 2);
        x.person(0, 0, 0);
        due("in lowest terms, above", x.mean(0, 0), 3);
        due("in lowest terms, below", x.mean(0, 1), 1);
        x.away(2, true);
        x.away(1, true);
        due("of those not AWAY", x.mean(0, 0), 6);
        due("behind 4", x.mean(4, 0), 2);
        due("behind 6", x.mean(6, 0), 0);
        due("behind 60, below", x.mean(60, 1), 1);
        x.away(0, true);
        for (long no : new long[] {
            x.mean(0, 0), new AheadOfPerson().mean(0, 0), two().mean(-1, 0), two().mean(61, 0), two().mean(0, 2),
            two().mean(0, -1)}) {
            due("NO", no, Long.MIN_VALUE);
        }
    }

    private static void plans() {
        AheadOfPerson x = corner();
        due("what 4", x.plan(4, 0), -1);
        due("what -2", x.plan(-2, 0), -1);
        due("what 1, no such PERSON", x.plan(1, 1), -1);
        due("what 2, no such PERSON", x.plan(2, -1), -1);
        due("what 3, no such CELL", x.plan(3, 16), -1);
        due("what 3, CELL -1", x.plan(3, -1), -1);
        due("what 0, the other not looked at", x.plan(0, LOW), 1);
        due("what 1", x.plan(1, 0), 2);
        due("what 2", x.plan(2, 0), 3);
        due("what 3", x.plan(3, 15), 4);
        for (int i = 5; i <= 8; i++) {
            due("plan(0, 99)", x.plan(0, 99), i);
        }
        due("FULL", x.plan(0, 0), -4);
        due("NONE ahead of FULL", x.plan(1, 1), -1);
        due("count(4)", x.count(4), 8);
        due("none then, whatever", x.plan(-1, HIGH), 0);
        due("count(4) of none", x.count(4), 0);
    }

    private static void done() {
        AheadOfPerson x = corner();
        x.pass(1);
        due("no rows: its CELL", x.done(0), 1);
        due("no rows: how many", x.done(1), 1);
        x.plan(0, 0);
        due("a STEP", x.done(0), 2);
        due("two CELLS", x.done(1), 2);
        x.plan(1, 0);
        x.plan(0, 0);
        // Nobody draws it, so it goes to the first by number.
        due("one is AWAY", x.done(0), 1);
        x.plan(3, 14);
        due("put", x.done(0), 14);
        due("put: LAIN stays", x.done(1), 2);
        x.plan(2, 0);
        x.plan(0, 0);
        due("one is not AWAY", x.done(0), 15);
        due("three CELLS", x.done(1), 3);
        due("what 2", x.done(2), -1);
        due("what -1", x.done(-1), -1);
        due("nothing is changed", x.told(2) * 100 + x.told(0) * 10 + x.of(0, 3), 110);
    }

    private static void books() {
        AheadOfPerson x = new AheadOfPerson();
        due("cell 16", x.book(16, 0), -1);
        due("cell -2", x.book(-2, 0), -1);
        due("lain -1", x.book(0, -1), -2);
        due("lain 100", x.book(0, 100), -2);
        due("NONE ahead of BAD", x.book(16, 100), -1);
        for (int i = 1; i <= 8; i++) {
            due("book", x.book(15, 99), i);
        }
        due("FULL", x.book(0, 0), -4);
        due("BAD ahead of FULL", x.book(0, 100), -2);
        due("count(5)", x.count(5), 8);
        due("none then, whatever", x.book(-1, HIGH), 0);
        due("count(5) of none", x.count(5), 0);
    }

    private static void looked() {
        AheadOfPerson x = corner();
        due("no rows", x.looked(), NEVER);
        x.book(0, 0);
        due("all as it is", x.looked(), NEVER);
        x.book(1, 1);
        x.book(2, 1);
        due("row 1 is otherwise", x.looked(), 1);
        x.pass(1);
        due("row 2 is otherwise", x.looked(), 2);
        x.pass(1);
        due("none is", x.looked(), NEVER);
        x.book(-1, 0);
        x.book(1, 0);
        due("row 0 is", x.looked(), 0);
    }

    private static void ran(AheadOfPerson x, int person, int act, int given, int want, int... bodies) {
        String what = "act(" + person + ", " + act + ", " + given + ")";
        due(what, x.act(person, act, given), want);
        due(what + ": how many ran", x.count(7), bodies.length);
        for (int i = 0; i < bodies.length; i++) {
            due(what + ": body " + i, x.trace(i), bodies[i]);
        }
        due(what + ": body " + bodies.length, x.trace(bodies.length), -1);
    }

    private static void acts() {
        AheadOfPerson x = oneOfEachKind();
        // v is KIND + 3, and each one's number is its KIND.
        ran(x, 0, 0, 10, 10, 1);
        ran(x, 0, 1, 10, 7, 2, 1);
        ran(x, 0, 2, 10, 14, 3, 2, 1);
        ran(x, 1, 0, 10, 31, 11, 1);
        ran(x, 1, 1, 10, 27, 2, 11, 1);
        ran(x, 1, 2, 10, 54, 3, 2, 11, 1);
        ran(x, 2, 0, 10, 12, 1);
        ran(x, 2, 1, 10, -7, 21, 2, 1);
        ran(x, 2, 2, 10, -14, 3, 21, 2, 1);
        ran(x, 3, 0, 10, 13, 1);
        ran(x, 3, 1, 10, 7, 2, 1);
        ran(x, 3, 2, 10, 14 ^ 7, 31, 3, 2, 1);
        ran(x, 4, 0, 10, 34, 11, 1);
        ran(x, 4, 1, 10, 27, 2, 11, 1);
        ran(x, 4, 2, 10, (27 + 4 - 7) * 2 + 10, 41, 3, 2, 11, 1, 11, 1);
        ran(x, 5, 0, 10, 15 ^ 5, 51, 1);
        ran(x, 5, 1, 10, -((15 ^ 5) - 8), 21, 2, 51, 1);
        ran(x, 5, 2, 10, -2 * ((15 ^ 5) - 8), 3, 21, 2, 51, 1);
        ran(x, 1, 0, HIGH, HIGH * 3 + 1, 11, 1);
        ran(x, 3, 0, HIGH, LOW + 2, 1);
        ran(x, 0, 2, LOW, (LOW - 3) * 2, 3, 2, 1);
        ran(x, -1, 0, 10, 0);
        x.act(0, 0, 1);
        ran(x, 6, 0, 10, 0);
        x.act(0, 0, 1);
        ran(x, 0, 3, 10, 0);
        x.act(0, 0, 1);
        ran(x, 0, -1, 10, 0);
        AheadOfPerson y = new AheadOfPerson();
        y.person(0, 1, 0);
        y.person(6, 9, 0);
        ran(y, 1, 0, 10, 11, 1);
        ran(y, 1, 1, 10, 11, 61, 2, 1);
        ran(y, 1, 2, 10, 22 ^ 7, 31, 3, 61, 2, 1);
        y.away(1, true);
        ran(y, 1, 0, 10, 11, 1);
    }

    private static void trace() {
        AheadOfPerson x = oneOfEachKind();
        due("at first", x.trace(0), -1);
        x.act(4, 2, 1);
        due("trace(0)", x.trace(0), 41);
        due("trace(6)", x.trace(6), 1);
        due("trace(7)", x.trace(7), -1);
        due("trace(-1)", x.trace(-1), -1);
        due("trace(20)", x.trace(20), -1);
        due("trace(HIGH)", x.trace(HIGH), -1);
        x.act(0, 0, 1);
        due("of the latest", x.trace(0), 1);
        due("of the latest alone", x.trace(1), -1);
    }

    private static void as() {
        AheadOfPerson x = oneOfEachKind();
        x.move(0, 0);
        String[] under = {"0", "01", "02", "03", "014", "025"};
        for (int person = 0; person < 6; person++) {
            for (int k = 0; k <= 6; k++) {
                boolean is = under[person].indexOf('0' + k) >= 0;
                due("as(" + person + ", " + k + ")", x.as(person, k), is ? person + 3 : -6);
            }
        }
        AheadOfPerson y = new AheadOfPerson();
        y.person(6, 9, 0);
        for (int k = 0; k <= 6; k++) {
            due("TOLD as " + k, y.as(0, k), k == 0 || k == 3 || k == 6 ? 9 : -6);
        }
        due("person 6", x.as(6, 0), -1);
        due("person -1", x.as(-1, 0), -1);
        due("k 7", x.as(0, 7), -1);
        due("k -1", x.as(0, -1), -1);
    }

    private static void images() {
        AheadOfPerson x = new AheadOfPerson();
        due("of none", x.image(), 0);
        x.person(0, 0, 0);
        x.person(0, 0, 0);
        due("of two", x.image(), 2);
        due("nothing else changes", x.count(0), 2);
    }

    private static void undo() {
        AheadOfPerson x = new AheadOfPerson();
        due("there is none", x.undo(), -3);
        town(x, "bored 4");
        x.person(6, 5, 9);
        x.person(1, 2, 3);
        x.line(0, 2, 8);
        x.away(1, true);
        x.pass(7);
        feed(x, "hope 1 ");
        x.walk(1);
        x.see(2, 3);
        x.plan(0, 0);
        x.book(4, 5);
        x.image();
        String was = all(x);
        due("undo at once", x.undo(), 2);
        change(x);
        due("all is otherwise", was.equals(all(x)) ? 1 : 0, 0);
        due("count(7) ahead of undo", x.count(7), 1);
        due("undo", x.undo(), 2);
        due("all is as it was", was.equals(all(x)) ? 1 : 0, 1);
        due("but THE TRACE", x.count(7), 1);
        due("and what it tells", x.trace(0), 1);
        change(x);
        due("undo once more", x.undo(), 2);
        due("all is as it was, once more", was.equals(all(x)) ? 1 : 0, 1);
        due("THE TAPE is", town(x, "v=5"), 1);
        due("LINE is", x.line(0, 2, 1), 8);
        due("a new one has no LINE of an old one", x.person(6, 0, 0) + x.line(2, 0, 0), 2);
        x.line(2, 0, 7);
        x.away(2, true);
        x.undo();
        due("a new one", x.person(6, 0, 0), 2);
        due("is not AWAY", x.of(2, 3), 0);
        due("has no LINE", x.line(2, 0, 0), 0);
    }

    private static void change(AheadOfPerson x) {
        town(x, "p=0");
        town(x, "bored 9");
        x.person(2, 2, 2);
        x.line(0, 2, 3);
        x.move(0, 0);
        x.away(1, false);
        x.lay(15);
        x.pass(3);
        x.walk(5);
        x.see(5, 5);
        x.plan(0, 0);
        x.plan(0, 0);
        x.book(5, 5);
        x.act(0, 0, 1);
    }

    /** Some 60 calls, for an object is good for 512. */
    private static String all(AheadOfPerson x) {
        StringBuilder all = new StringBuilder();
        for (int what = 0; what < 7; what++) {
            all.append(x.count(what)).append(' ');
        }
        for (int what = 0; what < 4; what++) {
            all.append(x.told(what)).append(' ');
        }
        for (int cell = 0; cell < 16; cell++) {
            all.append(x.told(30 + cell)).append(' ');
        }
        for (int person = 0; person < 3; person++) {
            for (int what : new int[] {0, 1, 2, 3, 14, 35}) {
                all.append(x.of(person, what)).append(' ');
            }
            all.append(x.doors(person)).append(' ');
        }
        all.append(x.met(0)).append(' ').append(x.met(1)).append(' ').append(x.looked()).append(' ');
        return all.append(x.on(9, 0)).append(' ').append(x.done(0)).append(' ').append(x.done(1)).toString();
    }

    private static void counts() {
        AheadOfPerson x = corner();
        x.person(0, 0, 0);
        feed(x, "abc");
        for (int i = 0; i < 4; i++) {
            x.walk(0);
        }
        for (int i = 0; i < 5; i++) {
            x.see(0, 0);
        }
        for (int i = 0; i < 6; i++) {
            x.plan(0, 0);
        }
        for (int i = 0; i < 7; i++) {
            x.book(0, 0);
        }
        x.act(0, 1, 0);
        int[] want = {2, 1, 4, 5, 6, 7, 3, 2};
        for (int what = 0; what < want.length; what++) {
            due("count(" + what + ")", x.count(what), want[what]);
        }
        due("count(8)", x.count(8), -1);
        due("count(-1)", x.count(-1), -1);
        due("count(LOW)", x.count(LOW), -1);
    }
}
