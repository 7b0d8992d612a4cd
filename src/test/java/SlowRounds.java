import java.util.ArrayList;
import java.util.Arrays;
import java.util.HashSet;
import java.util.List;
import java.util.NoSuchElementException;
import java.util.Set;

/** The document once more, told as plainly as can be and without any thought of speed: a second opinion. */
final class SlowRounds {
    static final class Fault extends RuntimeException {
        private static final long serialVersionUID = 1L;
        final int number;
        final int place;

        Fault(int number, int place) {
            super(null, null, false, false);
            this.number = number;
            this.place = place;
        }
    }

    record Token(String what, int place) {
        boolean isWord() {
            return what.matches("[a-z]+");
        }

        boolean isNumber() {
            return what.matches("[0-9]+");
        }
    }

    record Tool(String name, boolean ladder, int length, int bend) {
    }

    record Pane(int column, int height) {
    }

    record Setting(int tool, int column, int distance, int panes, boolean ladder) {
    }

    static final class Front {
        String name;
        int wide;
        int high;
        List<Pane> panes = new ArrayList<>();
        int blocked;
        int soft;
    }

    static final class Man {
        String name;
        int street;
        int place;
        int minutes;
    }

    static final class House {
        String name;
        int front;
        int man;
        int street;
        int place;
        int every;
        int wont;
        int price = 10;
        boolean dog;
        int from;
        int opens;
    }

    static final class Knot {
        String what;
        Knot left;
        Knot right;
    }

    static final class Told {
        List<Tool> ladders = new ArrayList<>();
        List<Tool> poles = new ArrayList<>();
        List<Front> fronts = new ArrayList<>();
        List<Man> men = new ArrayList<>();
        List<House> houses = new ArrayList<>();
        Set<Integer> wet = new HashSet<>();
        Knot complain;
        Knot trust;
        int knots;
        int holds;
        int takes;
        int lines;

        List<Tool> tools() {
            List<Tool> all = new ArrayList<>(ladders);
            all.addAll(poles);
            return all;
        }
    }

    /** house -1: a strike of the note in sum. */
    record Note(int house, int sum) {
    }

    static final class State {
        int next;
        int[] man;
        int[] due;
        int[] times;
        int[] letters;
        int[] complaints;
        boolean[] lasts;
        int[] last;
        int[] paid;
        List<List<List<Integer>>> ways = new ArrayList<>();
        List<List<Integer>> wipeDays = new ArrayList<>();
        List<Note> notes = new ArrayList<>();

        State copy() {
            State s = new State();
            s.next = next;
            s.man = man.clone();
            s.due = due.clone();
            s.times = times.clone();
            s.letters = letters.clone();
            s.complaints = complaints.clone();
            s.lasts = lasts.clone();
            s.last = last.clone();
            s.paid = paid.clone();
            s.ways = new ArrayList<>(ways);
            for (List<Integer> w : wipeDays) {
                s.wipeDays.add(new ArrayList<>(w));
            }
            s.notes = new ArrayList<>(notes);
            return s;
        }
    }

    private static final List<String> LANGUAGE = Arrays.asList("ladder", "pole", "front", "pane", "block", "soft", "man", "house",
            "not", "price", "dog", "from", "home", "wet", "to", "complain", "trust", "tank", "or", "and", "waits", "owes", "times",
            "every", "day");
    private static final List<String> NAMES = Arrays.asList("waits", "owes", "times", "price", "every", "day");

    private StringBuilder tape = new StringBuilder();
    private Told t = new Told();
    private State s = fresh(t);
    private State image;
    private int fault;
    private int place = -1;

    // reading
    private List<Token> tokens;
    private int at;
    private Told into;
    private int open;

    private static State fresh(Told t) {
        int n = t.houses.size();
        State s = new State();
        s.man = new int[n];
        s.due = new int[n];
        s.times = new int[n];
        s.letters = new int[n];
        s.complaints = new int[n];
        s.lasts = new boolean[n];
        s.last = new int[n];
        s.paid = new int[n];
        for (int i = 0; i < n; i++) {
            s.man[i] = t.houses.get(i).man;
            s.due[i] = t.houses.get(i).from;
            s.last[i] = -1;
            s.wipeDays.add(new ArrayList<>());
        }
        return s;
    }

    int feed(int a, int b, int c, int d, int e) {
        if (tape.length() > 880) {
            return -1;
        }
        for (int x : new int[] {a, b, c, d, e}) {
            for (int k = 3; k >= 0; k--) {
                tape.append((char) (x >> 8 * k & 255));
            }
        }
        return tape.length();
    }

    int text(int n) {
        if (n < 0 || n > tape.length()) {
            return -2;
        }
        String text = tape.substring(0, n);
        tape = new StringBuilder();
        try {
            into = new Told();
            split(text);
            at = 0;
            while (!peek().what.isEmpty()) {
                line();
                expect(";");
                into.lines++;
            }
        } catch (Fault f) {
            fault = f.number;
            place = f.place;
            return -1;
        }
        fault = 0;
        place = -1;
        t = into;
        s = fresh(t);
        image = null;
        return t.lines;
    }

    private void split(String text) {
        tokens = new ArrayList<>();
        java.util.regex.Matcher m = java.util.regex.Pattern.compile("[ \\n]+|[a-z]+|[0-9]+|<=|>=|<>|[\\s\\S]").matcher(text);
        while (m.find()) {
            if (!m.group().matches("[ \\n]+")) {
                tokens.add(new Token(m.group(), m.start()));
            }
        }
        tokens.add(new Token("", text.length()));
    }

    private Token peek() {
        return tokens.get(at);
    }

    private boolean sees(String... whats) {
        return Arrays.asList(whats).contains(peek().what);
    }

    private void expect(String what) {
        if (!peek().what.equals(what)) {
            throw new Fault(1, peek().place);
        }
        at++;
    }

    private Token word() {
        Token w = peek();
        if (!w.isWord() || w.what.length() > 6 || LANGUAGE.contains(w.what)) {
            throw new Fault(1, w.place);
        }
        at++;
        return w;
    }

    private int number(long least, long most) {
        Token w = peek();
        if (!w.isNumber()) {
            throw new Fault(1, w.place);
        }
        java.math.BigInteger v = new java.math.BigInteger(w.what);
        if (v.compareTo(java.math.BigInteger.valueOf(least)) < 0 || v.compareTo(java.math.BigInteger.valueOf(most)) > 0) {
            throw new Fault(2, w.place);
        }
        at++;
        return v.intValue();
    }

    private void again(boolean told, Token where) {
        if (told) {
            throw new Fault(3, where.place);
        }
    }

    private void line() {
        Token first = peek();
        switch (first.what) {
            case "ladder", "pole" -> {
                boolean ladder = first.what.equals("ladder");
                if (ladder ? into.ladders.size() == 4 : into.poles.size() == 3) {
                    throw new Fault(2, first.place);
                }
                at++;
                Token name = word();
                again(into.tools().stream().anyMatch(x -> x.name.equals(name.what)), name);
                int length = number(4, ladder ? 30 : 40);
                int bend = ladder ? 0 : number(0, 9);
                (ladder ? into.ladders : into.poles).add(new Tool(name.what, ladder, length, bend));
            }
            case "front" -> front(first);
            case "man" -> {
                if (into.men.size() == 3) {
                    throw new Fault(2, first.place);
                }
                at++;
                Token name = word();
                again(into.men.stream().anyMatch(x -> x.name.equals(name.what)), name);
                Man m = new Man();
                m.name = name.what;
                m.street = number(0, 9);
                m.place = number(0, 99);
                m.minutes = number(10, 600);
                into.men.add(m);
            }
            case "house" -> house(first);
            case "wet" -> {
                at++;
                int one = number(0, 199);
                int two = one;
                if (sees("to")) {
                    at++;
                    two = number(one, 199);
                }
                for (int d = one; d <= two; d++) {
                    into.wet.add(d);
                }
            }
            case "complain" -> {
                again(into.complain != null, first);
                at++;
                open = 0;
                into.complain = either();
            }
            case "trust" -> {
                again(into.trust != null, first);
                at++;
                open = 0;
                into.trust = either();
            }
            case "tank" -> {
                again(into.holds > 0, first);
                at++;
                into.holds = number(1, 999);
                into.takes = number(1, 99);
            }
            default -> throw new Fault(1, first.place);
        }
    }

    private void front(Token first) {
        if (into.fronts.size() == 5) {
            throw new Fault(2, first.place);
        }
        at++;
        Token name = word();
        again(into.fronts.stream().anyMatch(x -> x.name.equals(name.what)), name);
        Front f = new Front();
        f.name = name.what;
        f.wide = number(1, 12);
        f.high = number(1, 24);
        while (sees("pane", "block", "soft")) {
            Token what = peek();
            if (what.what.equals("pane") && f.panes.size() == 12) {
                throw new Fault(2, what.place);
            }
            at++;
            int column = number(0, f.wide - 1);
            Token latest = tokens.get(at - 1);
            if (what.what.equals("pane")) {
                latest = peek();
                Pane p = new Pane(column, number(1, f.high));
                again(f.panes.contains(p), latest);
                f.panes.add(p);
            } else if (what.what.equals("block")) {
                again((f.blocked & 1 << column) != 0, latest);
                f.blocked |= 1 << column;
            } else {
                again((f.soft & 1 << column) != 0, latest);
                f.soft |= 1 << column;
            }
        }
        into.fronts.add(f);
    }

    private void house(Token first) {
        if (into.houses.size() == 10) {
            throw new Fault(2, first.place);
        }
        at++;
        Token name = word();
        again(into.houses.stream().anyMatch(x -> x.name.equals(name.what)), name);
        House h = new House();
        h.name = name.what;
        Token w = word();
        h.front = into.fronts.stream().map(x -> x.name).toList().indexOf(w.what);
        if (h.front < 0) {
            throw new Fault(4, w.place);
        }
        w = word();
        h.man = into.men.stream().map(x -> x.name).toList().indexOf(w.what);
        if (h.man < 0) {
            throw new Fault(4, w.place);
        }
        h.street = number(0, 9);
        h.place = number(0, 99);
        h.every = number(1, 9);
        Set<String> told = new HashSet<>();
        while (sees("not", "price", "dog", "from", "home")) {
            Token what = peek();
            at++;
            switch (what.what) {
                case "not", "home" -> {
                    Token n = peek();
                    int day = number(0, 6);
                    again(!told.add(what.what + day), n);
                    if (what.what.equals("not")) {
                        h.wont |= 1 << day;
                    } else {
                        h.opens |= 1 << day;
                    }
                }
                case "price" -> {
                    again(!told.add("price"), what);
                    h.price = number(0, 999);
                }
                case "from" -> {
                    again(!told.add("from"), what);
                    h.from = number(0, 199);
                }
                default -> {
                    again(h.dog, what);
                    h.dog = true;
                }
            }
        }
        into.houses.add(h);
    }

    private Knot knot(Knot left, Knot right) {
        Knot k = new Knot();
        k.what = peek().what;
        k.left = left;
        if (into.knots == 64) {
            throw new Fault(2, peek().place);
        }
        into.knots++;
        at++;
        return k;
    }

    private Knot either() {
        Knot a = both();
        while (sees("or")) {
            a = knot(a, null);
            a.right = both();
        }
        return a;
    }

    private Knot both() {
        Knot a = turned();
        while (sees("and")) {
            a = knot(a, null);
            a.right = turned();
        }
        return a;
    }

    private Knot turned() {
        if (sees("not")) {
            Knot k = knot(null, null);
            k.left = turned();
            return k;
        }
        Knot a = sum();
        if (sees("<", "<=", "=", "<>", ">=", ">")) {
            a = knot(a, null);
            a.right = sum();
        }
        return a;
    }

    private Knot sum() {
        Knot a = term();
        while (sees("+", "-")) {
            a = knot(a, null);
            a.right = term();
        }
        return a;
    }

    private Knot term() {
        Knot a = part();
        while (sees("*", "/")) {
            a = knot(a, null);
            a.right = part();
        }
        return a;
    }

    private Knot part() {
        if (sees("(")) {
            if (open == 8) {
                throw new Fault(2, peek().place);
            }
            open++;
            at++;
            Knot a = either();
            expect(")");
            open--;
            return a;
        }
        if (peek().isNumber()) {
            number(0, 9999);
            at--;
        } else if (!NAMES.contains(peek().what)) {
            throw new Fault(1, peek().place);
        }
        return knot(null, null);
    }

    int fault(int what) {
        return what == 0 ? fault : what == 1 ? place : -1;
    }

    int named(int what, int letters) {
        List<String> names = switch (what) {
            case 0 -> t.tools().stream().map(x -> x.name).toList();
            case 1 -> t.fronts.stream().map(x -> x.name).toList();
            case 2 -> t.men.stream().map(x -> x.name).toList();
            case 3 -> t.houses.stream().map(x -> x.name).toList();
            default -> List.<String>of();
        };
        for (int i = 0; i < names.size(); i++) {
            if (Kit.letters(names.get(i)) == letters) {
                return i;
            }
        }
        return -1;
    }

    private boolean noHouse(int h) {
        return h < 0 || h >= t.houses.size();
    }

    private boolean noMan(int m) {
        return m < 0 || m >= t.men.size();
    }

    private boolean noFront(int f) {
        return f < 0 || f >= t.fronts.size();
    }

    private boolean noTools(int tools) {
        return tools < 0 || tools >= 1 << t.tools().size();
    }

    private boolean notDone(int day) {
        return day < 0 || day >= s.next;
    }

    int look(int house, int what) {
        if (noHouse(house)) {
            throw new IndexOutOfBoundsException();
        }
        House h = t.houses.get(house);
        if (what < 0 || what > 8) {
            throw new NoSuchElementException();
        }
        return new int[] {h.front, s.man[house], h.street, h.place, h.every, h.wont, h.price, h.dog ? 1 : 0, h.opens}[what];
    }

    int front(int front, int what) {
        if (noFront(front) || what < 0 || what > 4) {
            return -1;
        }
        Front f = t.fronts.get(front);
        return new int[] {f.wide, f.high, f.panes.size(), f.blocked, f.soft}[what];
    }

    int pane(int front, int pane, int what) {
        if (noFront(front) || pane < 0 || pane >= t.fronts.get(front).panes.size() || what < 0 || what > 1) {
            return -1;
        }
        Pane p = t.fronts.get(front).panes.get(pane);
        return what == 0 ? p.column : p.height;
    }

    int top(int front, int tool, int column, int distance, boolean held) {
        if (noFront(front) || tool < 0 || tool >= t.tools().size() || distance < 1 || distance > 9) {
            return -1;
        }
        Front f = t.fronts.get(front);
        if (column < 0 || column >= f.wide || (f.blocked & 1 << column) != 0) {
            return -1;
        }
        Tool x = t.tools().get(tool);
        if (distance >= x.length) {
            return -1;
        }
        int root = 0;
        while ((root + 1) * (root + 1) <= x.length * x.length - distance * distance) {
            root++;
        }
        if (!x.ladder) {
            return Math.max(0, root - x.length * x.bend / 10);
        }
        if (root < 3 * distance || root > 5 * distance || (f.soft & 1 << column) != 0 && !held) {
            return -1;
        }
        return root;
    }

    int covers(int front, int tool, int column, int distance, boolean held) {
        int top = top(front, tool, column, distance, held);
        if (top < 0) {
            return -1;
        }
        boolean ladder = t.tools().get(tool).ladder;
        int bits = 0;
        List<Pane> panes = t.fronts.get(front).panes;
        for (int i = 0; i < panes.size(); i++) {
            Pane p = panes.get(i);
            boolean tall = ladder ? p.height >= top - 5 && p.height <= top + 1 : p.height >= 1 && p.height <= top;
            if (tall && Math.abs(p.column - column) <= 1) {
                bits |= 1 << i;
            }
        }
        return bits;
    }

    private List<Setting> settings(int front, int tools, boolean held) {
        List<Setting> all = new ArrayList<>();
        for (int tool = 0; tool < t.tools().size(); tool++) {
            for (int column = 0; column < t.fronts.get(front).wide; column++) {
                for (int d = 1; d <= 9; d++) {
                    int panes = (tools & 1 << tool) == 0 ? -1 : covers(front, tool, column, d, held);
                    if (panes > 0) {
                        all.add(new Setting(tool, column, d, panes, t.tools().get(tool).ladder));
                    }
                }
            }
        }
        return all;
    }

    int missing(int front, int tools, boolean held) {
        if (noFront(front) || noTools(tools)) {
            return -1;
        }
        int all = (1 << t.fronts.get(front).panes.size()) - 1;
        for (Setting x : settings(front, tools, held)) {
            all &= ~x.panes;
        }
        return all;
    }

    /** Rows that rise, of one setting, of two and so on, each tried in order. */
    private List<Setting> row(int front, int tools, boolean held) {
        List<Setting> all = settings(front, tools, held);
        int want = 0;
        for (Setting x : all) {
            want |= x.panes;
        }
        for (int size = 0;; size++) {
            List<Setting> row = new ArrayList<>();
            if (tryRow(all, 0, size, want, row)) {
                return row;
            }
        }
    }

    private boolean tryRow(List<Setting> all, int from, int size, int want, List<Setting> row) {
        if (want == 0 && size == 0) {
            return true;
        }
        if (size == 0) {
            return false;
        }
        for (int i = from; i < all.size(); i++) {
            // One that covers nothing new can't stand in a fewest row.
            if ((all.get(i).panes & want) == 0) {
                continue;
            }
            row.add(all.get(i));
            if (tryRow(all, i + 1, size - 1, want & ~all.get(i).panes, row)) {
                return true;
            }
            row.remove(row.size() - 1);
        }
        return false;
    }

    int fewest(int front, int tools, boolean held, int what) {
        if (noFront(front) || noTools(tools)) {
            return -1;
        }
        List<Setting> row = row(front, tools, held);
        if (what == 0) {
            return row.size();
        }
        if (what < 0 || what > row.size()) {
            return -1;
        }
        Setting x = row.get(what - 1);
        return x.tool + 16 * x.column + 256 * x.distance;
    }

    int minutes(int front, int tools, boolean held) {
        if (noFront(front) || noTools(tools)) {
            return -1;
        }
        int sum = 0;
        int panes = 0;
        for (Setting x : row(front, tools, held)) {
            sum += x.ladder ? 6 : 3;
            panes |= x.panes;
        }
        return sum + 2 * Integer.bitCount(panes);
    }

    private int allTools() {
        return (1 << t.tools().size()) - 1;
    }

    int days(int n) {
        if (n < 0 || n > 200 || s.next + n > 200) {
            return -1;
        }
        int[] takes = new int[t.houses.size()];
        for (int h = 0; h < takes.length && n > 0; h++) {
            takes[h] = minutes(t.houses.get(h).front, allTools(), false);
        }
        for (int i = 0; i < n; i++) {
            oneDay(takes);
        }
        return s.next;
    }

    private void oneDay(int[] takes) {
        int day = s.next;
        List<List<Integer>> ways = new ArrayList<>();
        for (int m = 0; m < t.men.size(); m++) {
            List<Integer> way = new ArrayList<>();
            ways.add(way);
            if (t.wet.contains(day)) {
                continue;
            }
            List<Integer> open = new ArrayList<>();
            for (int h = 0; h < t.houses.size(); h++) {
                House x = t.houses.get(h);
                if (s.man[h] != m || s.due[h] > day) {
                    continue;
                }
                boolean wont = (x.wont >> day % 7 & 1) == 1;
                boolean bites = x.dog && (x.opens >> day % 7 & 1) == 0;
                if (wont || bites || !trusted(h, day)) {
                    s.letters[h]++;
                } else {
                    open.add(h);
                }
            }
            open.sort((a, b) -> s.due[a] != s.due[b] ? (day - s.due[b]) - (day - s.due[a]) : a - b);
            int left = t.men.get(m).minutes;
            int where = -1;
            for (int h : open) {
                int there = where < 0 ? homeWalk(m, h) : walk(where, h);
                if (there + takes[h] + homeWalk(m, h) > left) {
                    continue;
                }
                left -= there + takes[h];
                where = h;
                way.add(h);
                s.times[h]++;
                s.wipeDays.get(h).add(day);
                s.last[h] = day;
                s.due[h] = day + 7 * t.houses.get(h).every;
                s.lasts[h] = false;
                if ((t.houses.get(h).opens >> day % 7 & 1) == 1 && balance(h, -1) > 0) {
                    s.paid[h] += balance(h, -1);
                }
            }
        }
        s.ways.add(ways);
        for (int h = 0; h < t.houses.size(); h++) {
            if (t.complain != null && s.due[h] <= day && !s.lasts[h]) {
                Long v = value(t.complain, h, day);
                if (v != null && v != 0) {
                    s.lasts[h] = true;
                    s.complaints[h]++;
                }
            }
        }
        s.next++;
    }

    private boolean trusted(int h, int day) {
        if (t.trust == null) {
            return true;
        }
        Long v = value(t.trust, h, day);
        return v != null && v != 0;
    }

    private Long value(Knot k, int h, int day) {
        if (k.left == null) {
            return switch (k.what) {
                case "waits" -> (long) day - s.due[h];
                case "owes" -> (long) balance(h, -1);
                case "times" -> (long) s.times[h];
                case "price" -> (long) t.houses.get(h).price;
                case "every" -> (long) t.houses.get(h).every;
                case "day" -> (long) day;
                default -> Long.parseLong(k.what);
            };
        }
        Long a = value(k.left, h, day);
        if (k.right == null) {
            return a == null ? null : a == 0 ? 1L : 0L;
        }
        Long b = value(k.right, h, day);
        if (a == null || b == null || k.what.equals("/") && b == 0) {
            return null;
        }
        java.math.BigInteger x = java.math.BigInteger.valueOf(a);
        java.math.BigInteger y = java.math.BigInteger.valueOf(b);
        java.math.BigInteger r = switch (k.what) {
            case "+" -> x.add(y);
            case "-" -> x.subtract(y);
            case "*" -> x.multiply(y);
            case "/" -> x.divide(y);
            default -> java.math.BigInteger.valueOf(holds(k.what, a, b) ? 1 : 0);
        };
        return r.abs().compareTo(java.math.BigInteger.valueOf(1000000000000L)) > 0 ? null : Long.valueOf(r.longValue());
    }

    private static boolean holds(String what, long a, long b) {
        return switch (what) {
            case "<" -> a < b;
            case "<=" -> a <= b;
            case "=" -> a == b;
            case "<>" -> a != b;
            case ">=" -> a >= b;
            case ">" -> a > b;
            case "and" -> a != 0 && b != 0;
            default -> a != 0 || b != 0;
        };
    }

    int now(int house, int what) {
        if (noHouse(house) || what < 0 || what > 6) {
            return Integer.MIN_VALUE;
        }
        return new int[] {s.due[house], s.times[house], s.letters[house], s.complaints[house], s.lasts[house] ? 1 : 0,
            s.last[house], s.paid[house]}[what];
    }

    int wet(int day) {
        return day < 0 || day > 199 ? -1 : t.wet.contains(day) ? 1 : 0;
    }

    int wiped(int day) {
        if (notDone(day)) {
            return -1;
        }
        int bits = 0;
        for (int h = 0; h < t.houses.size(); h++) {
            bits |= s.wipeDays.get(h).contains(day) ? 1 << h : 0;
        }
        return bits;
    }

    private int homeWalk(int m, int h) {
        Man a = t.men.get(m);
        House b = t.houses.get(h);
        return Math.abs(a.place - b.place) + 10 * Math.abs(a.street - b.street);
    }

    private int lengthOf(int m, List<Integer> way) {
        int sum = 0;
        for (int i = 0; i < way.size(); i++) {
            sum += i == 0 ? homeWalk(m, way.get(0)) : walk(way.get(i - 1), way.get(i));
        }
        return way.isEmpty() ? 0 : sum + homeWalk(m, way.get(way.size() - 1));
    }

    int way(int man, int day, int what) {
        if (noMan(man) || notDone(day) || what < 0) {
            return -1;
        }
        List<Integer> way = s.ways.get(day).get(man);
        if (what == 0) {
            return way.size();
        }
        if (what == 1) {
            return lengthOf(man, way);
        }
        if (what == 2) {
            int sum = lengthOf(man, way);
            for (int h : way) {
                sum += minutes(t.houses.get(h).front, allTools(), false);
            }
            return sum;
        }
        return what - 3 < way.size() ? way.get(what - 3) : -1;
    }

    private List<Integer> best;
    private int bestLength;

    private void permute(int man, List<Integer> left, List<Integer> order) {
        if (left.isEmpty()) {
            if (best == null || lengthOf(man, order) < bestLength) {
                best = new ArrayList<>(order);
                bestLength = lengthOf(man, order);
            }
            return;
        }
        for (int h : new ArrayList<>(left)) {
            List<Integer> rest = new ArrayList<>(left);
            rest.remove((Integer) h);
            order.add(h);
            permute(man, rest, order);
            order.remove(order.size() - 1);
        }
    }

    int shortest(int man, int day, int what) {
        if (noMan(man) || notDone(day) || what < 0) {
            return -1;
        }
        List<Integer> houses = new ArrayList<>(s.ways.get(day).get(man));
        if (houses.size() > 7 || what > houses.size()) {
            return -1;
        }
        houses.sort(null);
        best = null;
        permute(man, houses, new ArrayList<>());
        return what == 0 ? bestLength : best.get(what - 1);
    }

    int walk(int house, int other) {
        if (noHouse(house) || noHouse(other)) {
            return -1;
        }
        House a = t.houses.get(house);
        House b = t.houses.get(other);
        return Math.abs(a.place - b.place) + 10 * Math.abs(a.street - b.street);
    }

    int pay(int house, int day, int sum) {
        if (noHouse(house) || day < 0 || day > 199 || sum < 0 || sum > 9999 || s.notes.size() == 60) {
            return -1;
        }
        s.notes.add(new Note(house, sum));
        return s.notes.size() - 1;
    }

    int strike(int note) {
        if (note < 0 || note >= s.notes.size() || s.notes.size() == 60) {
            return -1;
        }
        s.notes.add(new Note(-1, note));
        return s.notes.size() - 1;
    }

    /** Whether note i counts by the first n: no note behind it that counts itself strikes it. */
    private boolean counts(int i, int n) {
        for (int k = i + 1; k < n; k++) {
            Note x = s.notes.get(k);
            if (x.house < 0 && x.sum == i && counts(k, n)) {
                return false;
            }
        }
        return true;
    }

    private int knownPaid(int house, int n) {
        int sum = 0;
        for (int i = 0; i < (n < 0 ? s.notes.size() : n); i++) {
            if (s.notes.get(i).house == house && counts(i, n < 0 ? s.notes.size() : n)) {
                sum += s.notes.get(i).sum;
            }
        }
        return sum;
    }

    int balance(int house, int n) {
        if (noHouse(house) || n < -1 || n > s.notes.size()) {
            return Integer.MIN_VALUE;
        }
        return s.times[house] * t.houses.get(house).price - s.paid[house] - knownPaid(house, n);
    }

    int oldest(int house, int n) {
        if (noHouse(house) || n < -1 || n > s.notes.size()) {
            return -2;
        }
        int paid = s.paid[house] + knownPaid(house, n);
        int sum = 0;
        for (int day : s.wipeDays.get(house)) {
            sum += t.houses.get(house).price;
            if (sum > paid) {
                return day;
            }
        }
        return -1;
    }

    int owed(int man) {
        if (noMan(man)) {
            return -1;
        }
        int sum = 0;
        for (int h = 0; h < t.houses.size(); h++) {
            if (s.man[h] == man && balance(h, -1) > 0) {
                sum += balance(h, -1);
            }
        }
        return sum;
    }

    private int worthBy(int[] men, int man) {
        int sum = 0;
        for (int h = 0; h < men.length; h++) {
            if (men[h] == man) {
                sum += t.houses.get(h).price * 72 / t.houses.get(h).every;
            }
        }
        return sum;
    }

    int worth(int man) {
        return noMan(man) ? -1 : worthBy(s.man, man);
    }

    private int tourBy(int[] men, int man) {
        List<Integer> his = new ArrayList<>();
        for (int h = 0; h < men.length; h++) {
            if (men[h] == man) {
                his.add(h);
            }
        }
        his.sort((a, b) -> {
            House x = t.houses.get(a);
            House y = t.houses.get(b);
            return x.street != y.street ? x.street - y.street : x.place != y.place ? x.place - y.place : a - b;
        });
        return lengthOf(man, his);
    }

    int tour(int man) {
        return noMan(man) ? -1 : tourBy(s.man, man);
    }

    int swap(int loss, int what) {
        int n = t.houses.size();
        if (t.men.isEmpty() || loss < 0 || loss > 9999 || what < 0 || what > n) {
            return -1;
        }
        int[] men = new int[n];
        int[] first = null;
        int least = 0;
        while (true) {
            int sum = 0;
            boolean fair = true;
            for (int m = 0; m < t.men.size(); m++) {
                fair &= worthBy(men, m) >= worth(m) - loss;
            }
            if (fair) {
                for (int m = 0; m < t.men.size(); m++) {
                    sum += tourBy(men, m);
                }
                if (first == null || sum < least) {
                    first = men.clone();
                    least = sum;
                }
            }
            int h = n - 1;
            while (h >= 0 && men[h] == t.men.size() - 1) {
                men[h--] = 0;
            }
            if (h < 0) {
                return what == 0 ? least : first[what - 1];
            }
            men[h]++;
        }
    }

    boolean sell(int house, int man) {
        if (noHouse(house) || noMan(man) || s.man[house] == man) {
            return false;
        }
        s.man[house] = man;
        return true;
    }

    int instead(int tools) {
        if (noTools(tools)) {
            return -1;
        }
        int sum = 0;
        for (House h : t.houses) {
            sum += minutes(h.front, tools, false) + 50 * Integer.bitCount(missing(h.front, tools, false));
        }
        return sum;
    }

    int tanks(int man, int day) {
        if (noMan(man) || notDone(day)) {
            return -1;
        }
        if (t.holds == 0) {
            return 0;
        }
        int water = 0;
        for (int h : s.ways.get(day).get(man)) {
            int wiped = 0;
            for (Setting x : row(t.houses.get(h).front, allTools(), false)) {
                water += x.ladder ? 0 : t.takes * Integer.bitCount(x.panes & ~wiped);
                wiped |= x.panes;
            }
        }
        int fillings = 0;
        while (fillings * t.holds < water) {
            fillings++;
        }
        return fillings;
    }

    int keep() {
        image = s.copy();
        return s.next;
    }

    int back() {
        if (image == null) {
            return -1;
        }
        s = image.copy();
        return s.next;
    }

    int count(int what) {
        if (what < 0 || what > 12) {
            return -1;
        }
        return new int[] {t.ladders.size(), t.poles.size(), t.fronts.size(), t.men.size(), t.houses.size(), s.notes.size(), s.next,
            t.knots, t.wet.size(), t.holds, t.takes, Arrays.stream(s.letters).sum(), Arrays.stream(s.complaints).sum()}[what];
    }
}
