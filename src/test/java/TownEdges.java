/** The boundary cases that the document names of a new object, THE TAPE and TOWNS: promises 1 to 3. */
public final class TownEdges {
    private static final String NUMBERS = "0123456789", LETTERS = "pkvfcs";

    private TownEdges() {
    }

    public static void main(String[] args) {
        Edge.promise(1);
        isNew("a new object", new AheadOfPerson());
        AheadOfPerson other = Edge.full();
        isNew("one beside another that is full", new AheadOfPerson());
        Edge.is("and the other keeps what it has", other.count(0), 6);
        Edge.promise(2);
        feeds();
        Edge.promise(3);
        numbers();
        newest();
        words();
        clauses();
        expressions();
        opened();
        goesOn();
        tooEarly();
        lengths();
        behindFaults();
        Edge.end(1, 3);
    }

    private static void isNew(String which, AheadOfPerson x) {
        for (int what = 0; what <= 7; what++) {
            Edge.is(which + ": count(" + what + ")", x.count(what), 0);
        }
        for (int cell = 0; cell < 16; cell++) {
            Edge.is(which + ": LAIN of CELL " + cell, x.told(30 + cell), 0);
            Edge.is(which + ": DRAW of CELL " + cell, x.told(10 + cell), 0);
        }
        Edge.is(which + ": STEP", x.told(0), 0);
        Edge.is(which + ": BORED without a TOWN", x.told(1), 2);
        Edge.is(which + ": THE CARPET's CELL", x.told(2), 0);
        Edge.is(which + ": on how many CELLS it lay", x.told(3), 0);
        Edge.is(which + ": no PERSON 0", x.of(0, 0), Edge.NO_SUCH);
        Edge.is(which + ": no TRACE", x.trace(0), Edge.NONE);
        Edge.is(which + ": no IMAGE", x.undo(), Edge.STATE);
        Edge.is(which + ": no WALK", x.met(0), Edge.NEVER);
        Edge.is(which + ": no BOOK", x.looked(), Edge.NEVER);
        Edge.is(which + ": no PLAN", x.done(1), 0);
        Edge.is(which + ": the first PERSON is 0", x.person(6, 0, 0), 0);
        Edge.is(which + ": not AWAY at first", x.of(0, 3), 0);
        for (int k = 0; k < 4; k++) {
            Edge.is(which + ": LINE at first, " + k, x.line(0, k, 0), 0);
        }
        Edge.is(which + ": LURE without a TOWN", x.of(0, 10), 6);
        Edge.is(which + ": the first TOWN is 0", Edge.town(x, "bored 1"), 0);
    }

    private static void feeds() {
        AheadOfPerson x = new AheadOfPerson();
        Edge.is("the least sign", x.feed(0), 1);
        Edge.is("the greatest sign", x.feed(127), 2);
        for (int sign : new int[] {Edge.LOW, -1, 128, Edge.HIGH}) {
            Edge.same("sign " + sign, Edge::rich, y -> y.feed(sign), Edge.BAD);
            Edge.same("BAD ahead of FULL: sign " + sign, Edge::full, y -> y.feed(sign), Edge.BAD);
        }
        for (int i = 3; i <= 99; i++) {
            x.feed('b');
        }
        Edge.is("the 100th", x.feed('b'), 100);
        Edge.is("the 101st", x.feed('b'), Edge.FULL);
        Edge.is("the 102nd", x.feed('b'), Edge.FULL);
        Edge.same("FULL by the least sign", Edge::full, y -> y.feed(0), Edge.FULL);
        Edge.same("FULL by the greatest sign", Edge::full, y -> y.feed(127), Edge.FULL);
        Edge.is("a FAULT by sign 0", x.town(), -10);
        Edge.is("behind town() it begins anew", x.feed('b'), 1);
        Edge.town(x, "ored 0");
        Edge.is("behind a TOWN, too", x.feed('b'), 1);
        for (int i = 2; i <= 100; i++) {
            x.feed('b');
        }
        Edge.is("and is full anew", x.feed('b'), Edge.FULL);
        Edge.is("sign 127 is taken and is a FAULT then", Edge.town(new AheadOfPerson(), "b" + (char) 127), -11);
    }

    private static void numbers() {
        AheadOfPerson x = new AheadOfPerson();
        for (int i = 0; i < 5; i++) {
            Edge.is("a FAULT has no number, ahead of TOWN " + i, Edge.town(x, "bored 0;"), -18);
            Edge.is("TOWN " + i, Edge.town(x, "bored 1" + i), i);
            Edge.is("TOWN " + i + " holds", x.told(1), 10 + i);
            Edge.is("THE TAPE is empty behind TOWN " + i, x.count(6), 0);
        }
        Edge.same("FULL, ahead of a TOWN that could stand", TownEdges::fiveAndAnother, AheadOfPerson::town, Edge.FULL);
        Edge.same("FULL, ahead of a FAULT", Edge::full, AheadOfPerson::town, Edge.FULL);
        Edge.is("FULL, ahead of an empty TAPE's FAULT", x.town(), Edge.FULL);
        AheadOfPerson y = fiveAndAnother();
        y.town();
        Edge.is("THE TAPE stays by FULL", y.count(6), 7);
        Edge.is("THE TAPE goes on behind FULL", y.feed('0'), 8);
        Edge.is("the one that held holds by FULL", y.told(1), 4);
    }

    private static AheadOfPerson fiveAndAnother() {
        AheadOfPerson x = new AheadOfPerson();
        for (int i = 0; i < 5; i++) {
            Edge.town(x, "bored " + i);
        }
        return Edge.feed(x, "bored 9");
    }

    private static void newest() {
        AheadOfPerson x = Edge.made("", 0, 0, 0);
        Edge.is("a FAULT without a TOWN", Edge.town(x, "bored 9;hope 9 c=0;"), -29);
        Edge.is("BORED behind it", x.told(1), 2);
        Edge.is("LURE behind it", x.of(0, 10), 6);
        Edge.is("THE TAPE is empty by a FAULT, too", x.count(6), 0);
        Edge.is("and no TOWN is there", x.count(1), 0);
        Edge.is("a TOWN", Edge.town(x, "bored 9;hope 9 c=0"), 0);
        Edge.is("its BORED", x.told(1), 9);
        Edge.is("its LURE", x.of(0, 10), 15);
        Edge.is("a FAULT at its end", Edge.town(x, "bored 8;shy 9 c=0&"), -28);
        Edge.is("BORED of the one that held", x.told(1), 9);
        Edge.is("LURE of the one that held", x.of(0, 10), 15);
        Edge.is("a FAULT at its begin", Edge.town(x, "?"), -10);
        Edge.is("BORED of the one that held, again", x.told(1), 9);
        Edge.is("a newer TOWN", Edge.town(x, "shy 1 c=1"), 1);
        Edge.is("BORED without bored", x.told(1), 2);
        Edge.is("LURE by none of the older one's", x.of(0, 10), 6);
        Edge.is("the last n of bored", Edge.town(x, "bored 5;bored 0;bored 7;shy 3 c=0"), 2);
        Edge.is("is the third", x.told(1), 7);
        Edge.is("two of bored, the last is 0", Edge.town(x, "bored 5;bored 0"), 3);
        Edge.is("is 0", x.told(1), 0);
        Edge.same("a FAULT, but for THE TAPE", TownEdges::withoutTape, y -> Edge.town(y, "hope 9 c=1&"), -21);
        Edge.same("a FAULT of no signs", TownEdges::withoutTape, AheadOfPerson::town, -10);
    }

    private static AheadOfPerson withoutTape() {
        AheadOfPerson x = Edge.rich();
        x.town();
        return x;
    }

    /** -1: it is a TOWN. */
    private static void fault(String text, int at) {
        Edge.is("'" + text + "'", Edge.town(new AheadOfPerson(), text), at < 0 ? 0 : -10 - at);
    }

    private static void words() {
        fault(" ", 0);
        fault(";", 0);
        fault(" bored 1", 0);
        fault("Bored 1", 0);
        fault("fear 1", 0);
        fault("bored1", 5);
        fault("bored  1", 6);
        fault("bored 1 ", 7);
        fault("bored 1 c=1", 7);
        fault("bored -1", 6);
        fault("bored +1", 6);
        fault("bored 0", -1);
        fault("bored 9", -1);
        fault("bored 99", -1);
        fault("bored 00", 7);
        fault("bored 01", 7);
        fault("bored 100", 8);
        fault("bores 1", 4);
        fault("hop 1 c=1", 3);
        fault("hope1 c=1", 4);
        fault("hope  1 c=1", 5);
        fault("hope 1", 6);
        fault("hope 1c=1", 6);
        fault("hope 1  c=1", 7);
        fault("hope 0 c=1", -1);
        fault("hope 9 c=1", -1);
        fault("hope 10 c=1", -1);
        fault("hope 99 c=1", -1);
        fault("hope 00 c=1", 6);
        fault("hope 01 c=1", 6);
        fault("hope 100 c=1", 7);
        fault("hope c=1", 5);
        fault("shy1 c=1", 3);
        fault("shy  1 c=1", 4);
        fault("shy 1", 5);
        fault("shy 1c=1", 5);
        fault("shy 1  c=1", 6);
        fault("shy 0 c=1", -1);
        fault("shy 9 c=1", -1);
        fault("shy 10 c=1", -1);
        fault("shy 99 c=1", -1);
        fault("shy 00 c=1", 5);
        fault("shy 01 c=1", 5);
        fault("shy 100 c=1", 6);
    }

    private static String nineOfBored() {
        return "bored 1;".repeat(9);
    }

    private static void clauses() {
        fault("bored 1;", 8);
        fault("bored 1;;bored 1", 8);
        fault("bored 1; bored 1", 8);
        fault("bored 1 ;bored 1", 7);
        fault("bored 1,bored 1", 7);
        fault("hope 1 c=1;", 11);
        fault("hope 1 c=1; shy 1 c=1", 11);
        fault(";bored 1", 0);
        fault("bored 1;" + nineOfBored().substring(8) + "bored 1", -1);
        fault(nineOfBored() + "bored 1;", 79);
        fault(nineOfBored() + "bored 1;bored 1", 79);
        fault(nineOfBored() + "shy 1 c=1;shy 1 c=1", 81);
        fault(nineOfBored(), 72);
        AheadOfPerson x = Edge.made(nineOfBored() + "hope 5 c=0", 0, 0, 0);
        Edge.is("the 10th of CLAUSES holds", x.of(0, 10), 11);
        x = Edge.made(nineOfBored() + "bored 6", 0, 0, 0);
        Edge.is("the 10th of bored is the last", x.told(1), 6);
        x = Edge.made("shy 1 c=0;" + nineOfBored().substring(8) + "bored 6", 0, 0, 0);
        Edge.is("the first of 10 CLAUSES holds", x.of(0, 10), 5);
        Edge.is("the 10th behind it does, too", x.told(1), 6);
    }

    private static void expressions() {
        for (int i = 0; i < LETTERS.length(); i++) {
            char letter = LETTERS.charAt(i);
            for (String sign : new String[] {"<", "=", ">"}) {
                String test = "hope 1 " + letter + sign;
                fault(test, 9);
                fault(test + "0", -1);
                fault(test + "9", -1);
                fault(test + "99", -1);
                fault(test + "00", 10);
                fault(test + "05", 10);
                fault(test + "100", 11);
                fault(test + "-1", 9);
            }
            fault("hope 1 " + letter, 8);
            fault("hope 1 " + letter + "==1", 9);
            fault("hope 1 " + letter + "<=1", 9);
            fault("hope 1 " + letter + "!1", 8);
            fault("hope 1 " + letter + "1", 8);
            fault("hope 1 " + letter + " =1", 8);
            fault("hope 1 " + Character.toUpperCase(letter) + "=1", 7);
        }
        fault("hope 1 =1", 7);
        fault("hope 1 1=c", 7);
        fault("hope 1 |c=1", 7);
        fault("hope 1 &c=1", 7);
        fault("hope 1 c=1|", 11);
        fault("hope 1 c=1&", 11);
        fault("hope 1 c=1||c=1", 11);
        fault("hope 1 c=1&&c=1", 11);
        fault("hope 1 c=1|&c=1", 11);
        fault("hope 1 c=1&|c=1", 11);
        fault("hope 1 c=1c=1", 10);
        fault("hope 1 c=1 |c=1", 10);
        fault("hope 1 c=1|c=1&c=1|c=1", -1);
        fault("hope 1 ()", 8);
        fault("hope 1 (c=1", 11);
        fault("hope 1 (c=1;shy 1 c=1)", 11);
        fault("hope 1 (c=1)", -1);
        fault("hope 1 (c=1))", 12);
        fault("hope 1 c=1)", 10);
        fault("hope 1 )", 7);
        fault("hope 1 (c=1)c=1", 12);
        fault("hope 1 (c=1)(c=1)", 12);
        fault("hope 1 c=1(c=1)", 10);
        fault("hope 1 !", 8);
        fault("hope 1 !c=1", -1);
        fault("hope 1 c!=1", 8);
        fault("hope 1 c=1!", 10);
        fault("hope 1 !|c=1", 8);
        fault("hope 1 !)", 8);
        fault("hope 1 (!)", 9);
        fault("hope 1 (c=1|)", 12);
        fault("hope 1 (c=1&)", 12);
    }

    /** At most 5 of ! and ( are open: a ( till its ), a ! till its F ends. */
    private static void opened() {
        fault("shy 1 !!!!!c=1", -1);
        fault("shy 1 !!!!!!c=1", 11);
        fault("shy 1 !!!!!(c=1)", 11);
        fault("shy 1 (((((c=1)))))", -1);
        fault("shy 1 ((((((c=1))))))", 11);
        fault("shy 1 (((((!c=1)))))", 11);
        fault("shy 1 !(!(!c=1))", -1);
        fault("shy 1 !(!(!(c=1)))", 11);
        fault("shy 1 !(!(!!c=1))", 11);
        fault("shy 1 (!(!(c=1)))", -1);
        fault("shy 1 (!(!((c=1))))", 11);
        fault("shy 1 !!!!!c=1|!!!!!c=1", -1);
        fault("shy 1 !!!!!c=1&!!!!!c=1", -1);
        fault("shy 1 !!!!!c=1&!!!!!!c=1", 20);
        fault("shy 1 (((((c=1)))))|(((((c=1)))))", -1);
        fault("shy 1 (((((c=1)))))&((((((c=1))))))", 25);
        fault("shy 1 (((((c=1)))))&!!!!!c=1", -1);
        fault("shy 1 !!!!(c=1)&!!!!!c=1", -1);
        fault("shy 1 !!!!(c=1)&!!!!!!c=1", 21);
        fault("shy 1 !!!!(c=1|c=2)", -1);
        fault("shy 1 !!!!(c=1|!c=2)", 15);
        fault("shy 1 !!!!(c=1&(c=2))", 15);
        fault("shy 1 (!!!!c=1|!!!!c=1)", -1);
        fault("shy 1 (!!!!c=1|!!!!!c=1)", 19);
        fault("shy 1 ((((c=1)))&!c=1)", -1);
        fault("shy 1 ((((c=1)))&!!!!c=1)", -1);
        fault("shy 1 ((((c=1)))&!!!!!c=1)", 21);
        fault("shy 1 ((((!c=1|!c=1&!c=1)|!!c=1)|!!!c=1)|!!!!c=1)|!!!!!c=1", -1);
        fault("shy 1 ((((!c=1|!c=1&!c=1)|!!c=1)|!!!c=1)|!!!!c=1)|!!!!!!c=1", 55);
        fault("shy 1 ((((!c=1)|!!!c=1", 18);
        fault("shy 1 !(!(c=1)&!!(c=1))", -1);
        fault("shy 1 !(!(c=1)&!!(!c=1))", 18);
        fault("shy 1 !(!(c=1)&!!!c=1)", -1);
        fault("shy 1 !(!(c=1)&!!!!c=1)", 18);
        fault("shy 1 !!!!!c=1;shy 1 !!!!!c=1", -1);
        fault("shy 1 (((((c=1)))));hope 1 (((((c=1)))))", -1);
        fault("shy 1 !!!!!c=1;shy 1 !!!!!!c=1", 26);
        fault("shy 1 (((((c=1))))", 18);
        fault("shy 1 (((((c=1))))))", 19);
    }

    /** Of all signs 0 to 127, behind a text that is right so far, just these can go on; any other is the FAULT. */
    private static void goesOn(String text, String signs) {
        for (char sign = 0; sign < 128; sign++) {
            int answer = Edge.town(new AheadOfPerson(), text + sign);
            boolean goesOn = answer == 0 || answer == -10 - text.length() - 1;
            boolean isFault = answer == -10 - text.length();
            String which = "sign " + (int) sign + " behind '" + text + "'";
            if (signs.indexOf(sign) >= 0) {
                Edge.is(which + " goes on", goesOn ? 1 : 0, 1);
            } else {
                Edge.is(which + " is the FAULT", isFault ? 1 : 0, 1);
            }
        }
    }

    private static void goesOn() {
        goesOn("", "bhs");
        goesOn("bored", " ");
        goesOn("bored ", NUMBERS);
        goesOn("bored 0", ";");
        goesOn("bored 1", ";" + NUMBERS);
        goesOn("bored 10", ";");
        goesOn("bored 1;", "bhs");
        goesOn(nineOfBored() + "bored 1", NUMBERS);
        goesOn(nineOfBored() + "bored 10", "");
        goesOn("hope ", NUMBERS);
        goesOn("hope 0", " ");
        goesOn("hope 9", " " + NUMBERS);
        goesOn("shy 90", " ");
        goesOn("shy 1 ", "!(" + LETTERS);
        goesOn("shy 1 c", "<=>");
        goesOn("shy 1 c<", NUMBERS);
        goesOn("shy 1 c<0", "&|;");
        goesOn("shy 1 c<1", "&|;" + NUMBERS);
        goesOn("shy 1 c<10", "&|;");
        goesOn("shy 1 c<10&", "!(" + LETTERS);
        goesOn("shy 1 c<10|", "!(" + LETTERS);
        goesOn("shy 1 !", "!(" + LETTERS);
        goesOn("shy 1 (", "!(" + LETTERS);
        goesOn("shy 1 !!!!", "!(" + LETTERS);
        goesOn("shy 1 !!!!!", LETTERS);
        goesOn("shy 1 !!!!(", LETTERS);
        goesOn("shy 1 (((((", LETTERS);
        goesOn("shy 1 (((((c=0", "&|)");
        goesOn("shy 1 (((((c=0)", "&|)");
        goesOn("shy 1 (((((c=0)&", "!(" + LETTERS);
        goesOn("shy 1 (((((c=0&", LETTERS);
        goesOn("shy 1 !!!!!c=0&", "!(" + LETTERS);
        goesOn("shy 1 (c=0)", "&|;");
        goesOn("shy 1 (c=1", "&|)" + NUMBERS);
        goesOn(nineOfBored() + "shy 1 c=0", "&|");
    }

    /** What ends too early is a FAULT at its size, at whatever sign it ends: an empty TAPE at 0. */
    private static void tooEarly() {
        String town = "bored 10;hope 99 !(p<1|k=2)&v>3;shy 5 f<6|(c=15&s>0)";
        for (int size = 0; size < town.length(); size++) {
            boolean isTown = size == 7 || size == 8 || size == 27 || size == 31 || size == 41;
            fault(town.substring(0, size), isTown ? -1 : size);
            fault(town.substring(0, size) + "~", size);
        }
        fault(town, -1);
    }

    private static void lengths() {
        String of100 = "hope 1 p=10|p=10" + "|p=9".repeat(20) + "|c=5";
        AheadOfPerson x = Edge.made(of100, 0, 0, 0);
        Edge.is("a TOWN of 100 bytes", of100.length(), 100);
        Edge.is("holds up to its last TEST", x.of(0, 15), 7);
        Edge.is("and no further", x.of(0, 16), 6);
        String newer = of100.replace("hope 1", "hope 2");
        Edge.is("a byte beyond the 100 is not there", Edge.town(x, newer + "?"), 1);
        Edge.is("the newer of 100 bytes holds", x.of(0, 15), 8);
        fault(of100.substring(0, 99) + "=", 99);
        fault(of100.substring(0, 99) + "|", 99);
        String early = "shy 1 p=1" + "|p=9".repeat(22) + "&c=";
        Edge.is("an E without an end, of 100 bytes", early.length(), 100);
        fault(early, 100);
        fault("?".repeat(100), 0);
        String ofAnds = "hope 3 c=55" + "|c=1&c=1".repeat(11);
        x = Edge.made(ofAnds, 0, 0, 0);
        Edge.is("many & and |, where it holds", x.of(0, 11), 9);
        Edge.is("many & and |, where it does not", x.of(0, 12), 6);
    }

    /** The FAULT leaves nothing of its text in what is read behind it. */
    private static void behindFaults() {
        String[] faults = {
            "shy 9 (((((", "shy 9 !!!!!", "shy 9 c=1|c=1&(c=1|c=1&(c=1|c=1&(c=1|c=1&(c=1|c=1&(",
            "shy 9 c=0&", "shy 9 (c=0;",
            nineOfBored() + "bored 8;", nineOfBored() + "shy 9 c=0;"};
        for (String fault : faults) {
            AheadOfPerson x = Edge.made("", 0, 0, 0);
            Edge.town(x, fault);
            String behind = " behind '" + fault + "'";
            Edge.is("5 of ( may be open" + behind, Edge.town(x, "hope 1 (((((p=0)))))"), 0);
            Edge.is("LURE by that" + behind, x.of(0, 10), 7);
            Edge.is("BORED by that" + behind, x.told(1), 2);
            Edge.town(x, fault);
            Edge.is("5 of ! may be open" + behind, Edge.town(x, "hope 2 !!!!!p=1"), 1);
            Edge.is("LURE by that one" + behind, x.of(0, 10), 8);
            Edge.town(x, fault);
            Edge.is("no ( is open" + behind, Edge.town(x, "hope 3 p=0)"), -20);
            Edge.town(x, fault);
            Edge.is("10 CLAUSES may be" + behind, Edge.town(x, nineOfBored() + "hope 4 p=0"), 2);
            Edge.is("the 10th of them holds" + behind, x.of(0, 10), 10);
        }
        String of100 = "hope 1 p=10|p=10" + "|p=9".repeat(20) + "|c=";
        AheadOfPerson x = Edge.made("", 0, 0, 0);
        for (int i = 0; i < 3; i++) {
            Edge.is("100 bytes, too early, once more: " + i, Edge.town(x, of100 + "="), -109);
        }
        Edge.is("100 bytes behind these", Edge.town(x, of100 + "5"), 0);
        Edge.is("hold up to the last TEST", x.of(0, 15), 7);
        AheadOfPerson y = Edge.made("", 0, 0, 0);
        for (int i = 0; i < 4; i++) {
            Edge.is("100 bytes, TOWN " + i, Edge.town(y, of100 + (5 + i)), i);
            Edge.is("TOWN " + i + " holds up to its last TEST", y.of(0, 15 + i), 7);
        }
    }
}
