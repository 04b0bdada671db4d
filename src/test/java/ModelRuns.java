import java.util.ArrayList;
import java.util.Arrays;
import java.util.List;
import java.util.Random;
import java.util.TreeSet;

/**
 * Long runs of calls, drawn with fixed seeds, against a second program that follows the document's words one by one:
 * towns stay texts, every ask clones all there is, and a FAULT is where no derivation of the grammar is left.
 */
public final class ModelRuns {
    static final int NEVER = -5;
    static final long NO = Long.MIN_VALUE;

    static final class One {
        int kind;
        int v;
        int cell;
        boolean away;
        int[] line = new int[4];
    }

    static final class Model {
        List<One> folk = new ArrayList<>();
        List<String> towns = new ArrayList<>();
        StringBuilder tape = new StringBuilder();
        int cell;
        int step;
        int[] lain = new int[16];
        List<int[]> walk = new ArrayList<>();
        List<int[]> seen = new ArrayList<>();
        List<int[]> plan = new ArrayList<>();
        List<int[]> book = new ArrayList<>();

        Model copy() {
            Model m = new Model();
            for (One one : folk) {
                One o = new One();
                o.kind = one.kind;
                o.v = one.v;
                o.cell = one.cell;
                o.away = one.away;
                o.line = one.line.clone();
                m.folk.add(o);
            }
            m.towns.addAll(towns);
            m.tape.append(tape);
            m.cell = cell;
            m.step = step;
            m.lain = lain.clone();
            m.walk.addAll(walk);
            m.seen.addAll(seen);
            m.plan.addAll(plan);
            m.book.addAll(book);
            return m;
        }

        String[] clauses() {
            return towns.isEmpty() ? new String[0] : towns.get(towns.size() - 1).split(";");
        }

        int bored() {
            int bored = 2;
            for (String clause : clauses()) {
                if (clause.startsWith("bored ")) {
                    bored = Integer.parseInt(clause.substring(6));
                }
            }
            return bored;
        }

        int lure(int i, int c) {
            int lure = 6;
            for (String clause : clauses()) {
                String[] parts = clause.split(" ");
                if (parts.length == 3 && new Truth(parts[2], this, i, c).whole()) {
                    lure += (parts[0].equals("hope") ? 1 : -1) * Integer.parseInt(parts[1]);
                }
            }
            return lure;
        }

        int tug(int i, int c) {
            return folk.get(i).away ? 0 : tugAs(folk.get(i).kind, i, c);
        }

        int tugAs(int kind, int i, int c) {
            One one = folk.get(i);
            int far = far(one.cell, c);
            switch (kind) {
                case 0:
                    return lure(i, c) - 2 * far;
                case 1:
                    return lure(i, c) + one.v - far;
                case 2:
                    return far == 1 ? lure(i, c) : 0;
                case 3:
                    return tugAs(0, i, c) / 2;
                case 4:
                    return one.cell == c ? 2 * tugAs(1, i, c) : tugAs(1, i, c);
                case 5:
                    return tugAs(2, i, c) + (one.cell == c ? one.v : 0);
                default:
                    return tugAs(3, i, c) + one.line[step % 4];
            }
        }

        int draw(int c) {
            int draw = -bored() * lain[c];
            for (int i = 0; i < folk.size(); i++) {
                draw += tug(i, c);
            }
            return draw;
        }

        void go(boolean asked) {
            int best = -1;
            int most = 0;
            for (int c = 0; c < 16; c++) {
                if (far(c, cell) <= 1) {
                    int draw = draw(c);
                    if (best < 0 || draw > most) {
                        best = c;
                        most = draw;
                    }
                }
            }
            cell = best;
            lain[cell] = asked ? lain[cell] + 1 : Math.min(99, lain[cell] + 1);
            step++;
        }

        Model after(int n) {
            Model m = copy();
            for (int i = 0; i < n; i++) {
                m.go(true);
            }
            return m;
        }

        int cells() {
            return (int) Arrays.stream(lain).filter(n -> n > 0).count();
        }

        int comes(int to, int first, int last) {
            Model m = after(first);
            for (int i = first; i <= last; i++) {
                if (m.cell == to) {
                    return i;
                }
                m.go(true);
            }
            return NEVER;
        }

        boolean asSeen() {
            Model m = copy();
            boolean is = true;
            for (int i = 0; i <= 20; i++) {
                for (int[] one : seen) {
                    is &= one[1] != i || one[0] == m.cell;
                }
                m.go(true);
            }
            return is;
        }
    }

    static int far(int a, int b) {
        return Math.abs(a / 4 - b / 4) + Math.abs(a % 4 - b % 4);
    }

    /** Whether an E holds of one of PERSONS and a CELL, read anew from its text. */
    static final class Truth {
        final String text;
        final Model model;
        final int person;
        final int cell;
        int at = 0;

        Truth(String text, Model model, int person, int cell) {
            this.text = text;
            this.model = model;
            this.person = person;
            this.cell = cell;
        }

        boolean whole() {
            boolean is = either();
            if (at != text.length()) {
                throw new IllegalStateException(text);
            }
            return is;
        }

        boolean either() {
            boolean left = both();
            if (at < text.length() && text.charAt(at) == '|') {
                at++;
                boolean right = either();
                return left || right;
            }
            return left;
        }

        boolean both() {
            boolean left = one();
            if (at < text.length() && text.charAt(at) == '&') {
                at++;
                boolean right = both();
                return left && right;
            }
            return left;
        }

        boolean one() {
            char sign = text.charAt(at);
            at++;
            if (sign == '!') {
                return !one();
            }
            if (sign == '(') {
                boolean is = either();
                at++;
                return is;
            }
            char compare = text.charAt(at);
            at++;
            int from = at;
            while (at < text.length() && Character.isDigit(text.charAt(at))) {
                at++;
            }
            int n = Integer.parseInt(text.substring(from, at));
            int value = value(sign);
            return compare == '<' ? value < n : compare == '=' ? value == n : value > n;
        }

        int value(char letter) {
            One one = model.folk.get(person);
            switch (letter) {
                case 'p':
                    return person;
                case 'k':
                    return one.kind;
                case 'v':
                    return one.v;
                case 'f':
                    return far(one.cell, cell);
                case 'c':
                    return cell;
                case 's':
                    return model.step % 10;
                default:
                    throw new IllegalStateException(text);
            }
        }
    }

    /** All derivations of a TOWN at once, as stacks of what is still to come. */
    static final class Grammar {
        // Stacks are texts: signs below 128 stand for themselves, the others for parts of the grammar.
        private static final char E = 200, T = 210, F = 220, TOWN = 300, DIGIT = 400, MORE = 401, N = 402, TEST = 403;

        static int fault(String text) {
            TreeSet<String> stacks = new TreeSet<>(List.of(String.valueOf((char) (TOWN + 10))));
            for (int i = 0; i < text.length(); i++) {
                TreeSet<String> next = new TreeSet<>();
                for (String stack : ready(stacks)) {
                    if (!stack.isEmpty() && fits(stack.charAt(0), text.charAt(i))) {
                        next.add(stack.substring(1));
                    }
                }
                if (next.isEmpty()) {
                    return i;
                }
                stacks = next;
            }
            return ready(stacks).contains("") ? -1 : text.length();
        }

        private static boolean fits(char due, char sign) {
            return due == DIGIT ? sign >= '0' && sign <= '9' : due == MORE ? sign >= '1' && sign <= '9' : due == sign;
        }

        private static TreeSet<String> ready(TreeSet<String> stacks) {
            TreeSet<String> ready = new TreeSet<>();
            List<String> open = new ArrayList<>(stacks);
            for (int i = 0; i < open.size(); i++) {
                String stack = open.get(i);
                if (stack.isEmpty() || stack.charAt(0) < 128 || stack.charAt(0) == DIGIT || stack.charAt(0) == MORE) {
                    ready.add(stack);
                } else {
                    for (String body : bodies(stack.charAt(0))) {
                        open.add(body + stack.substring(1));
                    }
                }
            }
            return ready;
        }

        private static List<String> bodies(char part) {
            List<String> bodies = new ArrayList<>();
            if (part == N) {
                bodies.add("" + DIGIT);
                bodies.add("" + MORE + DIGIT);
            } else if (part == TEST) {
                for (char letter : "pkvfcs".toCharArray()) {
                    for (char sign : "<=>".toCharArray()) {
                        bodies.add("" + letter + sign + N);
                    }
                }
            } else if (part > TOWN) {
                for (String clause : List.of("bored " + N, "hope " + N + " " + E, "shy " + N + " " + E)) {
                    bodies.add(clause);
                    if (part > TOWN + 1) {
                        bodies.add(clause + ';' + (char) (part - 1));
                    }
                }
            } else if (part >= F) {
                bodies.add("" + TEST);
                if (part < F + 5) {
                    bodies.add("!" + (char) (part + 1));
                    bodies.add("(" + (char) (E + part - F + 1) + ")");
                }
            } else if (part >= T) {
                bodies.add("" + (char) (F + part - T));
                bodies.add("" + (char) (F + part - T) + '&' + part);
            } else {
                bodies.add("" + (char) (T + part - E));
                bodies.add("" + (char) (T + part - E) + '|' + part);
            }
            return bodies;
        }
    }

    /** The bodies of the acts, by classes as the document tells them. */
    static class Person {
        final int i;
        final int v;
        final List<Integer> trace;

        Person(int i, int v, List<Integer> trace) {
            this.i = i;
            this.v = v;
            this.trace = trace;
        }

        int stands(int x) {
            trace.add(1);
            return x + i;
        }

        int looks(int x) {
            trace.add(2);
            return stands(x) - v;
        }

        int tells(int x) {
            trace.add(3);
            return looks(x) * 2;
        }
    }

    static class Hoper extends Person {
        Hoper(int i, int v, List<Integer> trace) {
            super(i, v, trace);
        }

        @Override
        int stands(int x) {
            trace.add(11);
            return super.stands(x * 3);
        }
    }

    static class Sweep extends Person {
        Sweep(int i, int v, List<Integer> trace) {
            super(i, v, trace);
        }

        @Override
        int looks(int x) {
            trace.add(21);
            return -super.looks(x);
        }
    }

    static class Crowd extends Person {
        Crowd(int i, int v, List<Integer> trace) {
            super(i, v, trace);
        }

        @Override
        int tells(int x) {
            trace.add(31);
            return super.tells(x) ^ 7;
        }
    }

    static class Waiter extends Hoper {
        Waiter(int i, int v, List<Integer> trace) {
            super(i, v, trace);
        }

        @Override
        int tells(int x) {
            trace.add(41);
            return super.tells(x - 1) + stands(2);
        }
    }

    static class King extends Sweep {
        King(int i, int v, List<Integer> trace) {
            super(i, v, trace);
        }

        @Override
        int stands(int x) {
            trace.add(51);
            return super.stands(x) ^ i;
        }
    }

    static class Told extends Crowd {
        Told(int i, int v, List<Integer> trace) {
            super(i, v, trace);
        }

        @Override
        int looks(int x) {
            trace.add(61);
            return super.looks(x) + v;
        }
    }

    /** The face, by the model. */
    static final class Due {
        Model m = new Model();
        Model image = null;
        List<Integer> trace = new ArrayList<>();

        static boolean cell(int c) {
            return c >= 0 && c <= 15;
        }

        boolean one(int i) {
            return i >= 0 && i < m.folk.size();
        }

        int feed(int sign) {
            if (sign < 0 || sign > 127) {
                return -2;
            }
            if (m.tape.length() == 100) {
                return -4;
            }
            m.tape.append((char) sign);
            return m.tape.length();
        }

        int town() {
            if (m.towns.size() == 5) {
                return -4;
            }
            String text = m.tape.toString();
            m.tape.setLength(0);
            int fault = Grammar.fault(text);
            if (fault >= 0) {
                return -10 - fault;
            }
            m.towns.add(text);
            return m.towns.size() - 1;
        }

        int person(int kind, int v, int cell) {
            if (kind < 0 || kind > 6 || !cell(cell)) {
                return -1;
            }
            if (v < 0 || v > 9) {
                return -2;
            }
            if (m.folk.size() == 6) {
                return -4;
            }
            One one = new One();
            one.kind = kind;
            one.v = v;
            one.cell = cell;
            m.folk.add(one);
            return m.folk.size() - 1;
        }

        int of(int i, int what) {
            if (!one(i)) {
                return -999999;
            }
            One one = m.folk.get(i);
            if (what >= 0 && what <= 3) {
                return new int[] {one.kind, one.v, one.cell, one.away ? 1 : 0}[what];
            }
            if (what >= 10 && what <= 25) {
                return m.lure(i, what - 10);
            }
            return what >= 30 && what <= 45 ? m.tug(i, what - 30) : -999999;
        }

        int line(int i, int k, int n) {
            if (!one(i) || k < 0 || k > 3) {
                return -1;
            }
            if (n < 0 || n > 9) {
                return -2;
            }
            if (m.folk.get(i).kind != 6) {
                return -3;
            }
            int was = m.folk.get(i).line[k];
            m.folk.get(i).line[k] = n;
            return was;
        }

        int move(int i, int cell) {
            if (!one(i) || !cell(cell)) {
                return -1;
            }
            int was = m.folk.get(i).cell;
            m.folk.get(i).cell = cell;
            return was;
        }

        int away(int i, boolean is) {
            if (!one(i)) {
                return -1;
            }
            boolean was = m.folk.get(i).away;
            m.folk.get(i).away = is;
            return was ? 1 : 0;
        }

        int lay(int cell) {
            if (!cell(cell)) {
                return -1;
            }
            int was = m.cell;
            m.cell = cell;
            return was;
        }

        int told(int what) {
            if (what >= 0 && what <= 3) {
                return new int[] {m.step, m.bored(), m.cell, m.cells()}[what];
            }
            if (what >= 10 && what <= 25) {
                return m.draw(what - 10);
            }
            return what >= 30 && what <= 45 ? m.lain[what - 30] : -999999;
        }

        int pass(int n) {
            if (n < 0 || n > 60) {
                return -2;
            }
            if (m.step + n > 9999) {
                return -3;
            }
            for (int i = 0; i < n; i++) {
                m.go(false);
            }
            return m.cell;
        }

        int on(int n, int what) {
            if (what != 0 && what != 1 && (what < 10 || what > 25)) {
                return -1;
            }
            if (n < 0 || n > 60) {
                return -2;
            }
            Model then = m.after(n);
            return what == 0 ? then.cell : what == 1 ? then.cells() : then.lain[what - 10];
        }

        int finds(int i) {
            return one(i) ? m.comes(m.folk.get(i).cell, 0, 60) : -1;
        }

        int soonest(int cell, int what) {
            if (!cell(cell) || what < 0 || what > 1) {
                return -1;
            }
            for (int n = 0; n <= 30; n++) {
                for (int from = 0; from < 16; from++) {
                    Model there = m.copy();
                    there.cell = from;
                    if (from != cell && there.after(n).cell == cell) {
                        return what == 0 ? from : n;
                    }
                }
            }
            return NEVER;
        }

        int call(int cell) {
            if (!cell(cell)) {
                return -1;
            }
            int as = m.comes(cell, 0, 30);
            int best = NEVER;
            int fewest = as < 0 ? 31 : as;
            for (int i = 0; i < m.folk.size(); i++) {
                for (int to = 0; to < 16 && !m.folk.get(i).away; to++) {
                    Model moved = m.copy();
                    moved.folk.get(i).cell = to;
                    int steps = moved.comes(cell, 0, 30);
                    if (steps >= 0 && steps < fewest) {
                        fewest = steps;
                        best = 100 * i + to;
                    }
                }
            }
            return best;
        }

        int kept(int cell) {
            if (!cell(cell)) {
                return -1;
            }
            for (int many = 0; many <= m.folk.size(); many++) {
                for (int set = 0; set < 1 << m.folk.size(); set++) {
                    if (Integer.bitCount(set) == many) {
                        Model without = m.copy();
                        for (int i = 0; i < m.folk.size(); i++) {
                            without.folk.get(i).away |= (set >> i & 1) == 1;
                        }
                        if (without.comes(cell, 1, 30) < 0) {
                            return set;
                        }
                    }
                }
            }
            return NEVER;
        }

        static int row(List<int[]> rows, int most, int... row) {
            if (rows.size() == most) {
                return -4;
            }
            rows.add(row);
            return rows.size();
        }

        static int none(List<int[]> rows) {
            rows.clear();
            return 0;
        }

        int walk(int cell) {
            return cell == -1 ? none(m.walk) : !cell(cell) ? -1 : row(m.walk, 10, cell);
        }

        int met(int what) {
            if (what != 0 && what != 1) {
                return -1;
            }
            for (int n = 0; n < 20; n++) {
                int at = what == 0 ? n : n - 1;
                if (at >= 0 && at < m.walk.size() && m.walk.get(at)[0] == m.after(n).cell) {
                    return n;
                }
            }
            return NEVER;
        }

        int see(int cell, int n) {
            if (cell == -1) {
                return none(m.seen);
            }
            return !cell(cell) ? -1 : n < 0 || n > 20 ? -2 : row(m.seen, 5, cell, n);
        }

        int doors(int i) {
            if (!one(i)) {
                return -1;
            }
            int doors = 0;
            for (int c = 0; c < 16; c++) {
                Model moved = m.copy();
                moved.folk.get(i).cell = c;
                doors |= moved.asSeen() ? 1 << c : 0;
            }
            return doors;
        }

        int firm(int i, int what) {
            if (!one(i) || what < 0 || what > 1) {
                return -1;
            }
            List<Integer> all = new ArrayList<>();
            for (int v = 0; v <= 9; v++) {
                Model other = m.copy();
                other.folk.get(i).v = v;
                if (other.asSeen()) {
                    all.add(v);
                }
            }
            return what == 0 ? all.size() : all.isEmpty() ? NEVER : all.get(0);
        }

        int sought() {
            int sought = 0;
            for (int i = 0; i < m.folk.size(); i++) {
                Model alone = m.copy();
                for (int j = 0; j < m.folk.size(); j++) {
                    alone.folk.get(j).away = j != i;
                }
                sought |= alone.asSeen() ? 1 << i : 0;
            }
            return sought;
        }

        static long part(int above, int below, int part) {
            for (int d = 200; d > 1; d--) {
                if (above % d == 0 && below % d == 0) {
                    return part == 0 ? above / d : below / d;
                }
            }
            return part == 0 ? above : below;
        }

        long odds(int cell, int n, int part) {
            if (!cell(cell) || n < 0 || n > 60 || part < 0 || part > 1 || m.folk.isEmpty()) {
                return NO;
            }
            int there = 0;
            for (int i = 0; i < m.folk.size(); i++) {
                Model without = m.copy();
                without.folk.get(i).away = true;
                there += without.after(n).cell == cell ? 1 : 0;
            }
            return part(there, m.folk.size(), part);
        }

        long mean(int n, int part) {
            if (n < 0 || n > 60 || part < 0 || part > 1) {
                return NO;
            }
            int at = m.after(n).cell;
            int together = 0;
            int many = 0;
            for (One one : m.folk) {
                together += one.away ? 0 : far(one.cell, at);
                many += one.away ? 0 : 1;
            }
            return many == 0 ? NO : part(together, many, part);
        }

        int plan(int what, int n) {
            if (what == -1) {
                return none(m.plan);
            }
            boolean is = what == 0 || (what == 1 || what == 2) && one(n) || what == 3 && cell(n);
            return is ? row(m.plan, 8, what, n) : -1;
        }

        int done(int what) {
            if (what != 0 && what != 1) {
                return -1;
            }
            Model then = m.copy();
            for (int[] row : m.plan) {
                if (row[0] == 0) {
                    then.go(true);
                } else if (row[0] == 3) {
                    then.cell = row[1];
                } else {
                    then.folk.get(row[1]).away = row[0] == 1;
                }
            }
            return what == 0 ? then.cell : then.cells();
        }

        int book(int cell, int lain) {
            if (cell == -1) {
                return none(m.book);
            }
            return !cell(cell) ? -1 : lain < 0 || lain > 99 ? -2 : row(m.book, 8, cell, lain);
        }

        int looked() {
            for (int i = 0; i < m.book.size(); i++) {
                if (m.lain[m.book.get(i)[0]] != m.book.get(i)[1]) {
                    return i;
                }
            }
            return NEVER;
        }

        int act(int i, int act, int x) {
            trace = new ArrayList<>();
            if (!one(i) || act < 0 || act > 2) {
                return 0;
            }
            int v = m.folk.get(i).v;
            Person p = switch (m.folk.get(i).kind) {
                case 0 -> new Person(i, v, trace);
                case 1 -> new Hoper(i, v, trace);
                case 2 -> new Sweep(i, v, trace);
                case 3 -> new Crowd(i, v, trace);
                case 4 -> new Waiter(i, v, trace);
                case 5 -> new King(i, v, trace);
                default -> new Told(i, v, trace);
            };
            return act == 0 ? p.stands(x) : act == 1 ? p.looks(x) : p.tells(x);
        }

        int trace(int i) {
            return i >= 0 && i < Math.min(20, trace.size()) ? trace.get(i) : -1;
        }

        int as(int i, int k) {
            if (!one(i) || k < 0 || k > 6) {
                return -1;
            }
            String[] taken = {"0", "10", "20", "30", "410", "520", "630"};
            return taken[m.folk.get(i).kind].contains("" + k) ? m.folk.get(i).v : -6;
        }

        int image() {
            image = m.copy();
            return m.folk.size();
        }

        int undo() {
            if (image == null) {
                return -3;
            }
            m = image.copy();
            return m.folk.size();
        }

        int count(int what) {
            int[] all = {
                m.folk.size(), m.towns.size(), m.walk.size(), m.seen.size(), m.plan.size(), m.book.size(),
                m.tape.length(), trace.size()};
            return what >= 0 && what < all.length ? all[what] : -1;
        }
    }

    static final class Run {
        final int number;
        final Random random;
        final AheadOfPerson x = new AheadOfPerson();
        final Due due = new Due();
        int calls = 0;
        int wrong = 0;

        Run(int number) {
            this.number = number;
            this.random = new Random(number * 7919L + 17);
        }

        void check(String call, long got, long want) {
            calls++;
            if (got != want) {
                wrong++;
                System.out.println("run " + number + ", call " + calls + ": " + call + " is " + got + ", due " + want);
            }
        }

        int wild() {
            int[] wild = {Integer.MIN_VALUE, Integer.MAX_VALUE, -7, -2, 100, 1 << 20, -999999};
            return wild[random.nextInt(wild.length)];
        }

        /** Mostly 0 .. most, now and then just outside, seldom far from it. */
        int upTo(int most) {
            int what = random.nextInt(60);
            return what == 0 ? wild() : what == 1 ? -1 : what == 2 ? most + 1 : random.nextInt(most + 1);
        }

        int what(int few) {
            int which = random.nextInt(3);
            return which == 0 ? upTo(few) : which == 1 ? 10 + upTo(15) : 30 + upTo(15);
        }

        String number() {
            return "" + (random.nextInt(3) == 0 ? random.nextInt(100) : random.nextInt(10));
        }

        String either(int open) {
            StringBuilder text = new StringBuilder(one(open));
            while (random.nextInt(3) == 0) {
                text.append(random.nextBoolean() ? '&' : '|').append(one(open));
            }
            return text.toString();
        }

        String one(int open) {
            int which = random.nextInt(5);
            if (which == 0 && open < 5 + random.nextInt(20) / 19) {
                return "!" + one(open + 1);
            }
            if (which == 1 && open < 5 + random.nextInt(20) / 19) {
                return "(" + either(open + 1) + ")";
            }
            return "" + "pkvfcs".charAt(random.nextInt(6)) + "<=>".charAt(random.nextInt(3)) + number();
        }

        String town() {
            StringBuilder text = new StringBuilder();
            int clauses = 1 + random.nextInt(random.nextInt(4) == 0 ? 11 : 4);
            for (int i = 0; i < clauses; i++) {
                int which = random.nextInt(5);
                text.append(i == 0 ? "" : ";");
                text.append(which == 0 ? "bored " : which < 4 ? "hope " : "shy ").append(number());
                text.append(which == 0 ? "" : " " + either(0));
            }
            if (random.nextInt(4) == 0) {
                spoil(text);
            }
            return text.toString();
        }

        void spoil(StringBuilder text) {
            String signs = " ;!()&|<=>0123456789pkvfcsbhord\n";
            int at = random.nextInt(text.length());
            char sign = signs.charAt(random.nextInt(signs.length()));
            switch (random.nextInt(4)) {
                case 0:
                    text.insert(at, sign);
                    break;
                case 1:
                    text.setCharAt(at, sign);
                    break;
                case 2:
                    text.deleteCharAt(at);
                    break;
                default:
                    text.setLength(at);
                    break;
            }
        }

        void feedTown() {
            String text = town();
            for (int i = 0; i < text.length() && calls < 480; i++) {
                check("feed " + (int) text.charAt(i), x.feed(text.charAt(i)), due.feed(text.charAt(i)));
            }
            check("town of " + text, x.town(), due.town());
        }

        void any() {
            int one = upTo(Math.max(0, due.m.folk.size() - 1));
            int cell = upTo(15);
            int n = upTo(60);
            int which = upTo(1);
            int part = upTo(1);
            switch (random.nextInt(46)) {
                case 0, 1 -> person();
                case 2 -> check("feed", x.feed(n), due.feed(n));
                case 3 -> town(random.nextInt(3));
                case 4, 5, 6 -> of(one, what(3));
                case 7, 8 -> line(one, upTo(3), upTo(9));
                case 9 -> check("move " + one + " " + cell, x.move(one, cell), due.move(one, cell));
                case 10, 11 -> away(one, random.nextInt(3) == 0);
                case 12 -> check("lay " + cell, x.lay(cell), due.lay(cell));
                case 13, 14, 15 -> told(what(3));
                case 16, 17 -> check("pass " + n, x.pass(n), due.pass(n));
                case 18, 19 -> on(n, random.nextBoolean() ? which : 10 + cell);
                case 20 -> check("finds " + one, x.finds(one), due.finds(one));
                case 21 -> check("soonest " + cell + " " + which, x.soonest(cell, which), due.soonest(cell, which));
                case 22 -> check("call " + cell, x.call(cell), due.call(cell));
                case 23 -> check("kept " + cell, x.kept(cell), due.kept(cell));
                case 24, 25 -> walk(cell);
                case 26 -> check("met " + which, x.met(which), due.met(which));
                case 27 -> see(cell, upTo(20));
                case 28 -> check("doors " + one, x.doors(one), due.doors(one));
                case 29 -> check("firm " + one + " " + which, x.firm(one, which), due.firm(one, which));
                case 30 -> check("sought", x.sought(), due.sought());
                case 31, 32 -> odds(cell, n, part);
                case 33 -> check("mean " + n + " " + part, x.mean(n, part), due.mean(n, part));
                case 34, 35 -> plan(random.nextInt(3) == 0 ? 0 : upTo(3), random.nextBoolean() ? one : cell);
                case 36 -> check("done " + which, x.done(which), due.done(which));
                case 37 -> book(cell);
                case 38 -> check("looked", x.looked(), due.looked());
                case 39, 40 -> act(one, upTo(2), random.nextBoolean() ? random.nextInt() : upTo(9));
                case 41 -> check("trace", x.trace(which * 3), due.trace(which * 3));
                case 42 -> as(one, upTo(6));
                case 43 -> check("image", x.image(), due.image());
                case 44 -> undo();
                default -> counts();
            }
        }

        void person() {
            int kind = upTo(6);
            int v = upTo(9);
            int cell = upTo(15);
            check("person " + kind + " " + v + " " + cell, x.person(kind, v, cell), due.person(kind, v, cell));
        }

        void town(int how) {
            if (how == 0) {
                check("town", x.town(), due.town());
            } else if (calls < 380) {
                feedTown();
            }
        }

        void of(int one, int what) {
            check("of " + one + " " + what, x.of(one, what), due.of(one, what));
        }

        void line(int one, int k, int n) {
            check("line " + one + " " + k + " " + n, x.line(one, k, n), due.line(one, k, n));
        }

        void away(int one, boolean is) {
            check("away " + one + " " + is, x.away(one, is), due.away(one, is));
        }

        void told(int what) {
            check("told " + what, x.told(what), due.told(what));
        }

        void on(int n, int what) {
            check("on " + n + " " + what, x.on(n, what), due.on(n, what));
        }

        void walk(int cell) {
            int on = random.nextInt(4) == 0 ? cell : due.m.after(due.m.walk.size() + random.nextInt(3)).cell;
            check("walk " + on, x.walk(on), due.walk(on));
        }

        /** Mostly what will be so, or nearly, for else hardly anything lets all of SEEN be so. */
        void see(int cell, int n) {
            int seen = cell;
            if (n >= 0 && n <= 20 && random.nextInt(5) > 0) {
                Model m = due.m.copy();
                if (!m.folk.isEmpty() && random.nextBoolean()) {
                    m.folk.get(random.nextInt(m.folk.size())).cell = random.nextInt(16);
                }
                seen = m.after(n).cell;
            }
            check("see " + seen + " " + n, x.see(seen, n), due.see(seen, n));
        }

        void odds(int cell, int n, int part) {
            int at = n >= 0 && n <= 60 && random.nextBoolean() ? due.m.after(n).cell : cell;
            check("odds " + at + " " + n + " " + part, x.odds(at, n, part), due.odds(at, n, part));
        }

        void plan(int what, int n) {
            check("plan " + what + " " + n, x.plan(what, n), due.plan(what, n));
        }

        void book(int cell) {
            int lain = Due.cell(cell) && random.nextInt(4) > 0 ? due.m.lain[cell] : upTo(99);
            check("book " + cell + " " + lain, x.book(cell, lain), due.book(cell, lain));
        }

        void act(int one, int act, int given) {
            check("act " + one + " " + act + " " + given, x.act(one, act, given), due.act(one, act, given));
            for (int i = 0; i < 8; i++) {
                check("trace " + i, x.trace(i), due.trace(i));
            }
        }

        void as(int one, int k) {
            check("as " + one + " " + k, x.as(one, k), due.as(one, k));
        }

        void undo() {
            if (random.nextInt(3) == 0) {
                check("undo", x.undo(), due.undo());
            }
        }

        void counts() {
            int what = upTo(7);
            check("count " + what, x.count(what), due.count(what));
        }

        void go() {
            if (number % 40 == 0) {
                toTheEnd();
            } else if (number % 3 > 0) {
                feedTown();
            }
            int persons = random.nextInt(6);
            for (int i = 0; i < persons; i++) {
                person();
            }
            while (calls < 500) {
                any();
            }
        }

        /** STEP far on, so that what is asked goes on beyond it. */
        void toTheEnd() {
            feedTown();
            person();
            for (int i = 0; i < 166 && calls < 400; i++) {
                check("pass 60", x.pass(60), due.pass(60));
            }
            check("pass 39", x.pass(39), due.pass(39));
            check("pass 1", x.pass(1), due.pass(1));
            for (int i = 0; i < 30; i++) {
                on(30 + i, 10 + i % 16);
            }
        }
    }

    public static void main(String[] args) {
        int runs = args.length > 0 ? Integer.parseInt(args[0]) : 300;
        int wrong = 0;
        long calls = 0;
        for (int i = 1; i <= runs && wrong < 40; i++) {
            Run run = new Run(i);
            run.go();
            wrong += run.wrong;
            calls += run.calls;
        }
        System.out.println(runs + " runs, " + calls + " answers, " + wrong + " not as due");
        if (wrong != 0) {
            System.exit(1);
        }
    }
}
