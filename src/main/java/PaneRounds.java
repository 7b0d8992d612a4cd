import java.util.NoSuchElementException;

/** Window cleaners' rounds, told as a text and gone on with day by day. */
public final class PaneRounds {
    public static final int NONE = -1;

    private static final int MAX_TAPE = 900;
    private static final int MAX_LADDERS = 4;
    private static final int MAX_POLES = 3;
    private static final int MAX_TOOLS = 7;
    private static final int MAX_FRONTS = 5;
    private static final int MAX_WIDE = 12;
    private static final int MAX_PANES = 12;
    private static final int MAX_DISTANCE = 9;
    private static final int MAX_MEN = 3;
    private static final int MAX_HOUSES = 10;
    private static final int MAX_NOTES = 60;
    private static final int MAX_KNOTS = 64;
    private static final int MAX_OPEN = 8;
    private static final int MAX_SHORTEST = 7;
    private static final int MAX_LOSS = 9999;
    private static final int MAX_SUM = 9999;
    private static final int DAYS = 200;
    private static final int WEEK = 7;

    // The order of these numbers is the order of the words in WORDS.
    private static final String WORDS =
            "ladder pole front man house wet complain trust tank pane block soft dog from home to not or and waits owes times price every day ";
    private static final int LADDER = 0;
    private static final int POLE = 1;
    private static final int FRONT = 2;
    private static final int MAN = 3;
    private static final int HOUSE = 4;
    private static final int WET = 5;
    private static final int COMPLAIN = 6;
    private static final int TRUST = 7;
    private static final int TANK = 8;
    private static final int PANE = 9;
    private static final int BLOCK = 10;
    private static final int SOFT = 11;
    private static final int DOG = 12;
    private static final int FROM = 13;
    private static final int HOME = 14;
    private static final int TO = 15;
    private static final int NOT = 16;
    private static final int OR = 17;
    private static final int AND = 18;
    private static final int WAITS = 19;
    private static final int OWES = 20;
    private static final int TIMES = 21;
    private static final int PRICE = 22;
    private static final int EVERY = 23;
    private static final int DAY = 24;
    private static final int NAMES = 6;
    private static final int FREE_WORD = 25;
    private static final int NUMBER = 26;
    private static final int LINE_END = 27;
    private static final int OPEN = 28;
    private static final int SHUT = 29;
    private static final int LESS = 30;
    private static final int LESS_EQUAL = 31;
    private static final int EQUAL = 32;
    private static final int UNEQUAL = 33;
    private static final int GREATER_EQUAL = 34;
    private static final int GREATER = 35;
    private static final int PLUS = 36;
    private static final int MINUS = 37;
    private static final int STAR = 38;
    private static final int SLASH = 39;
    private static final int NO_TOKEN = 40;
    private static final int TEXT_END = 41;

    private static final int FAULT_TOKEN = 1;
    private static final int FAULT_MUCH = 2;
    private static final int FAULT_AGAIN = 3;
    private static final int FAULT_UNTOLD = 4;

    private static final long LIMIT = 1000000000000L;
    private static final long ERROR = Long.MIN_VALUE;

    private final byte[] tape = new byte[MAX_TAPE];
    private int tapeSize = 0;
    private Plan plan = new Plan();
    private Plan spare = new Plan();
    private final Reader reader = new Reader();
    private final Book book = new Book(null);
    private Book image = null;
    private boolean kept = false;
    private Fewest fewest = null;
    private Work work = null;
    private Trips trips = null;
    private int fault = 0;
    private int faultPlace = NONE;

    public PaneRounds() {
    }

    public int feed(int a, int b, int c, int d, int e) {
        if (tapeSize + 20 > MAX_TAPE) {
            return NONE;
        }
        layOnTape(a);
        layOnTape(b);
        layOnTape(c);
        layOnTape(d);
        layOnTape(e);
        return tapeSize;
    }

    public int text(int n) {
        if (n < 0 || n > tapeSize) {
            return -2;
        }
        tapeSize = 0;
        boolean told = reader.readAll(tape, n, spare);
        fault = reader.fault;
        faultPlace = reader.faultPlace;
        if (!told) {
            return NONE;
        }
        Plan old = plan;
        plan = spare;
        spare = old;
        startAnew();
        return plan.lines;
    }

    public int fault(int what) {
        switch (what) {
            case 0: return fault;
            case 1: return faultPlace;
            default: return NONE;
        }
    }

    public int named(int what, int letters) {
        switch (what) {
            case 0: return plan.tools.find(letters);
            case 1: return plan.findFront(letters);
            case 2: return plan.findMan(letters);
            case 3: return plan.findHouse(letters);
            default: return NONE;
        }
    }

    public int look(int house, int what) throws IndexOutOfBoundsException, NoSuchElementException {
        if (!plan.hasHouse(house)) {
            throw new IndexOutOfBoundsException();
        }
        House it = plan.house[house];
        switch (what) {
            case 0: return it.front;
            case 1: return book.man[house];
            case 2: return it.street;
            case 3: return it.place;
            case 4: return it.every;
            case 5: return it.wont;
            case 6: return it.price;
            case 7: return it.dog ? 1 : 0;
            case 8: return it.opens;
            default: throw new NoSuchElementException();
        }
    }

    public int front(int front, int what) {
        if (!plan.hasFront(front)) {
            return NONE;
        }
        Front it = plan.front[front];
        switch (what) {
            case 0: return it.wide;
            case 1: return it.high;
            case 2: return it.panes;
            case 3: return it.blocked;
            case 4: return it.soft;
            default: return NONE;
        }
    }

    public int pane(int front, int pane, int what) {
        if (!plan.hasFront(front)) {
            return NONE;
        }
        Front it = plan.front[front];
        if (pane < 0 || pane >= it.panes) {
            return NONE;
        }
        switch (what) {
            case 0: return it.column[pane];
            case 1: return it.height[pane];
            default: return NONE;
        }
    }

    public int top(int front, int tool, int column, int distance, boolean held) {
        return maySettle(front, tool, column, held) ? plan.tools.reach(tool, distance) : NONE;
    }

    public int covers(int front, int tool, int column, int distance, boolean held) {
        if (!maySettle(front, tool, column, held)) {
            return NONE;
        }
        int reach = plan.tools.reach(tool, distance);
        if (reach == NONE) {
            return NONE;
        }
        Front it = plan.front[front];
        return it.panesNear(column) & it.panesBetween(plan.tools.lowest(tool, reach), plan.tools.highest(tool, reach));
    }

    public int missing(int front, int tools, boolean held) {
        if (!plan.hasFront(front) || !plan.tools.haveBits(tools)) {
            return NONE;
        }
        return finder().missed(plan, front, tools, held);
    }

    public int fewest(int front, int tools, boolean held, int what) {
        if (!plan.hasFront(front) || !plan.tools.haveBits(tools) || what < 0) {
            return NONE;
        }
        finder().solve(plan, front, tools, held);
        if (what == 0) {
            return fewest.size[front];
        }
        return fewest.settingOf(front, what - 1);
    }

    public int minutes(int front, int tools, boolean held) {
        if (!plan.hasFront(front) || !plan.tools.haveBits(tools)) {
            return NONE;
        }
        return finder().timeFor(plan, front, tools, held);
    }

    public int days(int n) {
        if (n < 0 || n > DAYS - book.next) {
            return NONE;
        }
        if (n > 0) {
            worker().goOn(plan, n);
        }
        return book.next;
    }

    public int now(int house, int what) {
        if (!plan.hasHouse(house)) {
            return Integer.MIN_VALUE;
        }
        switch (what) {
            case 0: return book.due[house];
            case 1: return book.times[house];
            case 2: return book.letters[house];
            case 3: return book.complaints[house];
            case 4: return book.lasting[house] ? 1 : 0;
            case 5: return book.last[house];
            case 6: return book.paid[house];
            default: return Integer.MIN_VALUE;
        }
    }

    public int wet(int day) {
        if (day < 0 || day >= DAYS) {
            return NONE;
        }
        return plan.wet[day] ? 1 : 0;
    }

    public int wiped(int day) {
        return book.isDone(day) ? book.wipes[day] : NONE;
    }

    public int way(int man, int day, int what) {
        if (!plan.hasMan(man) || !book.isDone(day) || what < 0) {
            return NONE;
        }
        switch (what) {
            case 0: return book.wayLength(day, man);
            case 1: return walker().wayWalk(plan, man, day);
            case 2: return walker().wayWalk(plan, man, day) + worker().wayMinutes(plan, man, day);
            default: return book.wayHouse(day, man, what - 3);
        }
    }

    public int shortest(int man, int day, int what) {
        if (!plan.hasMan(man) || !book.isDone(day) || what < 0) {
            return NONE;
        }
        if (book.wayLength(day, man) > MAX_SHORTEST || what > book.wayLength(day, man)) {
            return NONE;
        }
        int least = walker().findShortest(plan, man, day);
        return what == 0 ? least : trips.shortestHouse(what - 1);
    }

    public int walk(int house, int other) {
        if (!plan.hasHouse(house) || !plan.hasHouse(other)) {
            return NONE;
        }
        return plan.apart(house, other);
    }

    public int pay(int house, int day, int sum) {
        if (!plan.hasHouse(house) || day < 0 || day >= DAYS || sum < 0 || sum > MAX_SUM) {
            return NONE;
        }
        return book.addNote(house, sum, NONE);
    }

    public int strike(int note) {
        if (note < 0 || note >= book.notes) {
            return NONE;
        }
        return book.addNote(NONE, 0, note);
    }

    public int balance(int house, int n) {
        if (!plan.hasHouse(house) || n < -1 || n > book.notes) {
            return Integer.MIN_VALUE;
        }
        return book.owing(plan, house, n == -1 ? book.notes : n);
    }

    public int oldest(int house, int n) {
        if (!plan.hasHouse(house) || n < -1 || n > book.notes) {
            return -2;
        }
        return book.firstUnpaid(plan, house, n == -1 ? book.notes : n);
    }

    public int owed(int man) {
        if (!plan.hasMan(man)) {
            return NONE;
        }
        int sum = 0;
        for (int house = 0; house < plan.houses; house++) {
            if (book.man[house] == man) {
                sum += Math.max(0, book.owing(plan, house, book.notes));
            }
        }
        return sum;
    }

    public int worth(int man) {
        return plan.hasMan(man) ? book.worthOf(plan, man) : NONE;
    }

    public int tour(int man) {
        return plan.hasMan(man) ? walker().tourOf(plan, man) : NONE;
    }

    public int swap(int loss, int what) {
        if (plan.men == 0 || loss < 0 || loss > MAX_LOSS || what < 0 || what > plan.houses) {
            return NONE;
        }
        int least = walker().findSwap(plan, loss);
        return what == 0 ? least : trips.swapMan(what - 1);
    }

    public boolean sell(int house, int man) {
        if (!plan.hasHouse(house) || !plan.hasMan(man) || book.man[house] == man) {
            return false;
        }
        book.man[house] = man;
        walker().forgetSwap();
        return true;
    }

    public int instead(int tools) {
        if (!plan.tools.haveBits(tools)) {
            return NONE;
        }
        int sum = 0;
        for (int house = 0; house < plan.houses; house++) {
            int front = plan.house[house].front;
            sum += finder().timeFor(plan, front, tools, false);
            sum += 50 * Integer.bitCount(finder().missed(plan, front, tools, false));
        }
        return sum;
    }

    public int tanks(int man, int day) {
        if (!plan.hasMan(man) || !book.isDone(day)) {
            return NONE;
        }
        if (plan.tankHolds <= 0) {
            return 0;
        }
        int water = worker().wayPolePanes(plan, man, day) * plan.tankTakes;
        return (water + plan.tankHolds - 1) / plan.tankHolds;
    }

    public int keep() {
        if (image == null) {
            image = new Book(book);
        }
        image.copyFrom(book);
        kept = true;
        return book.next;
    }

    public int back() {
        if (!kept || image == null) {
            return NONE;
        }
        book.copyFrom(image);
        walker().forgetSwap();
        return book.next;
    }

    public int count(int what) {
        switch (what) {
            case 0: return plan.tools.ladders;
            case 1: return plan.tools.poles;
            case 2: return plan.fronts;
            case 3: return plan.men;
            case 4: return plan.houses;
            case 5: return book.notes;
            case 6: return book.next;
            case 7: return plan.knots();
            case 8: return plan.wetDays();
            case 9: return plan.tankHolds;
            case 10: return plan.tankTakes;
            case 11: return book.sumOf(book.letters, plan.houses);
            case 12: return book.sumOf(book.complaints, plan.houses);
            default: return NONE;
        }
    }

    private void layOnTape(int number) {
        for (int shift = 24; shift >= 0; shift -= 8) {
            if (tapeSize < MAX_TAPE) {
                tape[tapeSize] = (byte) (number >>> shift);
                tapeSize++;
            }
        }
    }

    private void startAnew() {
        book.begin(plan);
        kept = false;
        if (fewest != null) {
            fewest.forget();
        }
        if (trips != null) {
            trips.forgetPlan();
        }
    }

    private boolean maySettle(int front, int tool, int column, boolean held) {
        return plan.hasFront(front) && plan.tools.has(tool)
                && plan.front[front].bears(column, plan.tools.isLadder(tool), held);
    }

    // The helpers below are made when first wanted: many objects never want their tables.

    private Fewest finder() {
        if (fewest == null) {
            fewest = new Fewest();
        }
        return fewest;
    }

    private Work worker() {
        if (work == null) {
            work = new Work(book, finder());
        }
        return work;
    }

    private Trips walker() {
        if (trips == null) {
            trips = new Trips(book);
        }
        return trips;
    }

    /** Ladders and poles; ladders come first in the numbers, wherever they stand in the text. */
    private static final class Tools {
        int ladders = 0;
        int poles = 0;
        final int[] ladderName = new int[MAX_LADDERS];
        final int[] ladderLength = new int[MAX_LADDERS];
        final int[] poleName = new int[MAX_POLES];
        final int[] poleLength = new int[MAX_POLES];
        final int[] poleBend = new int[MAX_POLES];

        int total() {
            return ladders + poles;
        }

        boolean has(int tool) {
            return tool >= 0 && tool < ladders + poles;
        }

        boolean haveBits(int bits) {
            return bits >= 0 && bits < 1 << (ladders + poles);
        }

        int allBits() {
            return (1 << (ladders + poles)) - 1;
        }

        boolean isLadder(int tool) {
            return tool < ladders;
        }

        int find(int letters) {
            for (int i = 0; i < ladders; i++) {
                if (ladderName[i] == letters) {
                    return i;
                }
            }
            for (int i = 0; i < poles; i++) {
                if (poleName[i] == letters) {
                    return ladders + i;
                }
            }
            return NONE;
        }

        /** How high a tool comes from this distance, or NONE where it can't be put there. */
        int reach(int tool, int distance) {
            if (!has(tool) || distance < 1 || distance > MAX_DISTANCE) {
                return NONE;
            }
            int length = isLadder(tool) ? ladderLength[tool] : poleLength[tool - ladders];
            if (distance >= length) {
                return NONE;
            }
            int root = rootBelow(length, length * length - distance * distance);
            if (isLadder(tool)) {
                return root >= 3 * distance && root <= 5 * distance ? root : NONE;
            }
            return Math.max(0, root - length * poleBend[tool - ladders] / 10);
        }

        int lowest(int tool, int reach) {
            return isLadder(tool) ? reach - 5 : 1;
        }

        int highest(int tool, int reach) {
            return isLadder(tool) ? reach + 1 : reach;
        }

        /** The search begins at a number that is known to be above the root, and near it. */
        private static int rootBelow(int start, int square) {
            for (int root = start; root > 0; root--) {
                if (root * root <= square) {
                    return root;
                }
            }
            return 0;
        }
    }

    /** A front with its panes; columns are told as bits. */
    private static final class Front {
        int name = 0;
        int wide = 0;
        int high = 0;
        int panes = 0;
        int blocked = 0;
        int soft = 0;
        final int[] column = new int[MAX_PANES];
        final int[] height = new int[MAX_PANES];

        void begin(int letters) {
            name = letters;
            wide = 0;
            high = 0;
            panes = 0;
            blocked = 0;
            soft = 0;
        }

        boolean bears(int at, boolean ladder, boolean held) {
            if (at < 0 || at >= wide || (blocked >> at & 1) != 0) {
                return false;
            }
            return !ladder || held || (soft >> at & 1) == 0;
        }

        boolean hasPaneAt(int atColumn, int atHeight) {
            for (int i = 0; i < panes; i++) {
                if (column[i] == atColumn && height[i] == atHeight) {
                    return true;
                }
            }
            return false;
        }

        int panesNear(int at) {
            int bits = 0;
            for (int i = 0; i < panes; i++) {
                if (column[i] >= at - 1 && column[i] <= at + 1) {
                    bits |= 1 << i;
                }
            }
            return bits;
        }

        int panesBetween(int low, int up) {
            int bits = 0;
            for (int i = 0; i < panes; i++) {
                if (height[i] >= low && height[i] <= up) {
                    bits |= 1 << i;
                }
            }
            return bits;
        }
    }

    /** A man with his home. */
    private static final class Man {
        int name = 0;
        int street = 0;
        int place = 0;
        int minutes = 0;
    }

    /** A house as the text tells it; whose it is now stands in the book. */
    private static final class House {
        int name = 0;
        int front = 0;
        int man = 0;
        int street = 0;
        int place = 0;
        int every = 1;
        int wont = 0;
        int price = 10;
        boolean dog = false;
        int from = 0;
        int opens = 0;

        void begin(int letters) {
            name = letters;
            wont = 0;
            price = 10;
            dog = false;
            from = 0;
            opens = 0;
        }

        boolean letsIn(int weekday) {
            return (wont >> weekday & 1) == 0 && (!dog || isOpen(weekday));
        }

        boolean isOpen(int weekday) {
            return (opens >> weekday & 1) != 0;
        }

        int value() {
            return every > 0 ? price * 72 / every : 0;
        }
    }

    /** An E as knots in the order in which they are worked out: a number as itself, all else below 0. */
    private static final class Formula {
        int size = 0;
        final int[] knot = new int[MAX_KNOTS];

        void add(int code) {
            if (size < MAX_KNOTS) {
                knot[size] = code;
                size++;
            }
        }

        /** Its value by the facts (in the order of the names), or ERROR; the stack holds MAX_KNOTS. */
        long work(long[] facts, long[] stack) {
            int depth = 0;
            for (int i = 0; i < size; i++) {
                int kind = -1 - knot[i];
                if (kind < 0) {
                    depth = push(stack, depth, knot[i]);
                } else if (kind >= WAITS && kind < WAITS + NAMES) {
                    depth = push(stack, depth, facts[kind - WAITS]);
                } else if (kind == NOT) {
                    depth = push(stack, depth - 1, truth(at(stack, depth - 1) == 0));
                } else {
                    depth = push(stack, depth - 2, join(kind, at(stack, depth - 2), at(stack, depth - 1)));
                }
                long latest = at(stack, depth - 1);
                if (latest > LIMIT || latest < -LIMIT) {
                    return ERROR;
                }
            }
            return at(stack, depth - 1);
        }

        private static int push(long[] stack, int depth, long value) {
            if (depth >= 0 && depth < stack.length) {
                stack[depth] = value;
            }
            return depth + 1;
        }

        private static long at(long[] stack, int index) {
            return index >= 0 && index < stack.length ? stack[index] : ERROR;
        }

        private static long truth(boolean holds) {
            return holds ? 1 : 0;
        }

        private static long join(int kind, long a, long b) {
            switch (kind) {
                case OR: return truth(a != 0 || b != 0);
                case AND: return truth(a != 0 && b != 0);
                case LESS: return truth(a < b);
                case LESS_EQUAL: return truth(a <= b);
                case EQUAL: return truth(a == b);
                case UNEQUAL: return truth(a != b);
                case GREATER_EQUAL: return truth(a >= b);
                case GREATER: return truth(a > b);
                case PLUS: return a + b;
                case MINUS: return a - b;
                case STAR: return isWithin(a, b) ? a * b : ERROR;
                case SLASH: return b == 0 ? ERROR : a / b;
                default: return ERROR;
            }
        }

        /** Both are within LIMIT, but their product may be beyond a long. */
        private static boolean isWithin(long a, long b) {
            long size = b < 0 ? -b : b;
            return size == 0 || (a < 0 ? -a : a) <= LIMIT / size;
        }
    }

    /** All that a text tells. */
    private static final class Plan {
        final Tools tools = new Tools();
        int fronts = 0;
        int men = 0;
        int houses = 0;
        final Front[] front = new Front[MAX_FRONTS];
        final Man[] man = new Man[MAX_MEN];
        final House[] house = new House[MAX_HOUSES];
        final boolean[] wet = new boolean[DAYS];
        final Formula complain = new Formula();
        final Formula trust = new Formula();
        int tankHolds = 0;
        int tankTakes = 0;
        int lines = 0;

        Plan() {
            for (int i = 0; i < MAX_FRONTS; i++) {
                front[i] = new Front();
            }
            for (int i = 0; i < MAX_MEN; i++) {
                man[i] = new Man();
            }
            for (int i = 0; i < MAX_HOUSES; i++) {
                house[i] = new House();
            }
        }

        void clear() {
            tools.ladders = 0;
            tools.poles = 0;
            fronts = 0;
            men = 0;
            houses = 0;
            for (int i = 0; i < DAYS; i++) {
                wet[i] = false;
            }
            complain.size = 0;
            trust.size = 0;
            tankHolds = 0;
            tankTakes = 0;
            lines = 0;
        }

        boolean hasFront(int number) {
            return number >= 0 && number < fronts;
        }

        boolean hasMan(int number) {
            return number >= 0 && number < men;
        }

        boolean hasHouse(int number) {
            return number >= 0 && number < houses;
        }

        int findFront(int letters) {
            for (int i = 0; i < fronts; i++) {
                if (front[i].name == letters) {
                    return i;
                }
            }
            return NONE;
        }

        int findMan(int letters) {
            for (int i = 0; i < men; i++) {
                if (man[i].name == letters) {
                    return i;
                }
            }
            return NONE;
        }

        int findHouse(int letters) {
            for (int i = 0; i < houses; i++) {
                if (house[i].name == letters) {
                    return i;
                }
            }
            return NONE;
        }

        int knots() {
            return complain.size + trust.size;
        }

        int wetDays() {
            int number = 0;
            for (int i = 0; i < DAYS; i++) {
                if (wet[i]) {
                    number++;
                }
            }
            return number;
        }

        /** Between two houses. */
        int apart(int one, int other) {
            House a = house[one];
            House b = house[other];
            return Math.abs(a.place - b.place) + 10 * Math.abs(a.street - b.street);
        }

        /** Between a man's home and a house. */
        int fromHome(int whose, int to) {
            Man a = man[whose];
            House b = house[to];
            return Math.abs(a.place - b.place) + 10 * Math.abs(a.street - b.street);
        }

        /** From where a man is (NONE: at home) to a house. */
        int onward(int whose, int from, int to) {
            return from == NONE ? fromHome(whose, to) : apart(from, to);
        }

        int homeward(int whose, int from) {
            return from == NONE ? 0 : fromHome(whose, from);
        }
    }

    /** Reads a text into a plan, token by token, and stops at its first fault. */
    private static final class Reader {
        int fault = 0;
        int faultPlace = NONE;
        private int length = 0;
        private final int[] kinds = new int[MAX_TAPE + 1];
        private final int[] starts = new int[MAX_TAPE + 1];
        private final int[] values = new int[MAX_TAPE + 1];
        private int tokens = 0;
        private int token = 0;
        private int kind = TEXT_END;
        private int value = 0;
        private int got = 0;
        private Plan plan = null;
        private final int[] waiting = new int[MAX_KNOTS + MAX_OPEN];
        private int waitings = 0;
        private int open = 0;

        boolean readAll(byte[] tape, int size, Plan into) {
            length = Math.max(0, Math.min(size, Math.min(tape.length, MAX_TAPE)));
            splitTape(tape);
            plan = into;
            plan.clear();
            fault = 0;
            faultPlace = NONE;
            token = NONE;
            advance();
            for (int i = 0; i <= length; i++) {
                if (kind == TEXT_END) {
                    return true;
                }
                if (!readLine()) {
                    return false;
                }
                if (kind != LINE_END) {
                    return fail(FAULT_TOKEN);
                }
                plan.lines++;
                advance();
            }
            return true;
        }

        private boolean fail(int number) {
            fault = number;
            faultPlace = starts[token];
            return false;
        }

        /** The last token is the text's end and is never left. */
        private void advance() {
            if (token < tokens - 1) {
                token++;
            }
            kind = kinds[token];
            value = values[token];
        }

        private void splitTape(byte[] tape) {
            tokens = 0;
            int end = 0;
            for (int at = 0; at < length; at++) {
                if (at < end || tape[at] == 10 || tape[at] == 32) {
                    continue;
                }
                if (isLetter(tape[at])) {
                    end = splitWord(tape, at);
                } else if (isDigit(tape[at])) {
                    end = splitNumber(tape, at);
                } else {
                    end = splitSign(tape, at);
                }
            }
            addToken(TEXT_END, length, 0);
        }

        private void addToken(int itsKind, int start, int itsValue) {
            if (tokens < kinds.length) {
                kinds[tokens] = itsKind;
                starts[tokens] = start;
                values[tokens] = itsValue;
                tokens++;
            }
        }

        private static boolean isLetter(int sign) {
            return sign >= 'a' && sign <= 'z';
        }

        private static boolean isDigit(int sign) {
            return sign >= '0' && sign <= '9';
        }

        private int splitWord(byte[] tape, int start) {
            int end = start;
            int letters = 0;
            for (int i = start; i < length && isLetter(tape[i]); i++) {
                if (i - start < 6) {
                    letters |= (tape[i] - 'a' + 1) << (25 - 5 * (i - start));
                }
                end = i + 1;
            }
            int word = wordOfLanguage(tape, start, end);
            if (word == FREE_WORD && end - start > 6) {
                word = NO_TOKEN;
            }
            addToken(word, start, letters);
            return end;
        }

        private static int wordOfLanguage(byte[] tape, int start, int end) {
            int number = 0;
            int begin = 0;
            for (int i = 0; i < WORDS.length(); i++) {
                if (WORDS.charAt(i) == ' ') {
                    if (i - begin == end - start && isSpelled(tape, start, begin, i)) {
                        return number;
                    }
                    number++;
                    begin = i + 1;
                }
            }
            return FREE_WORD;
        }

        private static boolean isSpelled(byte[] tape, int start, int begin, int behind) {
            for (int i = begin; i < behind; i++) {
                if (WORDS.charAt(i) != tape[start + i - begin]) {
                    return false;
                }
            }
            return true;
        }

        private int splitNumber(byte[] tape, int start) {
            int end = start;
            int number = 0;
            for (int i = start; i < length && isDigit(tape[i]); i++) {
                // A number beyond all bounds stays so, however many digits follow.
                number = Math.min(100000, number * 10 + tape[i] - '0');
                end = i + 1;
            }
            addToken(NUMBER, start, number);
            return end;
        }

        private int splitSign(byte[] tape, int start) {
            int behind = start + 1 < length ? tape[start + 1] : 0;
            int sign = signOf(tape[start], behind);
            addToken(sign, start, 0);
            return sign == LESS_EQUAL || sign == UNEQUAL || sign == GREATER_EQUAL ? start + 2 : start + 1;
        }

        private static int signOf(int sign, int behind) {
            switch (sign) {
                case ';': return LINE_END;
                case '(': return OPEN;
                case ')': return SHUT;
                case '+': return PLUS;
                case '-': return MINUS;
                case '*': return STAR;
                case '/': return SLASH;
                case '=': return EQUAL;
                case '<': return behind == '=' ? LESS_EQUAL : behind == '>' ? UNEQUAL : LESS;
                case '>': return behind == '=' ? GREATER_EQUAL : GREATER;
                default: return NO_TOKEN;
            }
        }

        private boolean readLine() {
            switch (kind) {
                case LADDER: return readLadder();
                case POLE: return readPole();
                case FRONT: return readFront();
                case MAN: return readMan();
                case HOUSE: return readHouse();
                case WET: return readWet();
                case COMPLAIN: return readRule(plan.complain);
                case TRUST: return readRule(plan.trust);
                case TANK: return readTank();
                default: return fail(FAULT_TOKEN);
            }
        }

        private boolean readLadder() {
            Tools tools = plan.tools;
            int at = tools.ladders;
            if (at >= MAX_LADDERS) {
                return fail(FAULT_MUCH);
            }
            advance();
            if (!isNewName(tools.find(value))) {
                return false;
            }
            tools.ladderName[at] = value;
            advance();
            if (!takeNumber(4, 30)) {
                return false;
            }
            tools.ladderLength[at] = got;
            tools.ladders++;
            return true;
        }

        private boolean readPole() {
            Tools tools = plan.tools;
            int at = tools.poles;
            if (at >= MAX_POLES) {
                return fail(FAULT_MUCH);
            }
            advance();
            if (!isNewName(tools.find(value))) {
                return false;
            }
            tools.poleName[at] = value;
            advance();
            if (!takeNumber(4, 40)) {
                return false;
            }
            tools.poleLength[at] = got;
            if (!takeNumber(0, 9)) {
                return false;
            }
            tools.poleBend[at] = got;
            tools.poles++;
            return true;
        }

        private boolean readFront() {
            if (plan.fronts >= MAX_FRONTS) {
                return fail(FAULT_MUCH);
            }
            advance();
            if (!isNewName(plan.findFront(value))) {
                return false;
            }
            Front it = plan.front[plan.fronts];
            it.begin(value);
            advance();
            if (!takeNumber(1, MAX_WIDE)) {
                return false;
            }
            it.wide = got;
            if (!takeNumber(1, 24)) {
                return false;
            }
            it.high = got;
            for (int i = 0; i <= length; i++) {
                if (kind != PANE && kind != BLOCK && kind != SOFT) {
                    break;
                }
                if (!(kind == PANE ? readPane(it) : readGround(it))) {
                    return false;
                }
            }
            plan.fronts++;
            return true;
        }

        private boolean readGround(Front it) {
            boolean block = kind == BLOCK;
            advance();
            if (!isFreshBit(block ? it.blocked : it.soft, it.wide - 1)) {
                return false;
            }
            if (block) {
                it.blocked |= 1 << value;
            } else {
                it.soft |= 1 << value;
            }
            advance();
            return true;
        }

        private boolean readPane(Front it) {
            int at = it.panes;
            if (at >= MAX_PANES) {
                return fail(FAULT_MUCH);
            }
            advance();
            if (!takeNumber(0, it.wide - 1)) {
                return false;
            }
            it.column[at] = got;
            if (!isNumber(1, it.high)) {
                return false;
            }
            if (it.hasPaneAt(it.column[at], value)) {
                return fail(FAULT_AGAIN);
            }
            it.height[at] = value;
            it.panes++;
            advance();
            return true;
        }

        private boolean readMan() {
            if (plan.men >= MAX_MEN) {
                return fail(FAULT_MUCH);
            }
            advance();
            if (!isNewName(plan.findMan(value))) {
                return false;
            }
            Man it = plan.man[plan.men];
            it.name = value;
            advance();
            if (!takeNumber(0, 9)) {
                return false;
            }
            it.street = got;
            if (!takeNumber(0, 99)) {
                return false;
            }
            it.place = got;
            if (!takeNumber(10, 600)) {
                return false;
            }
            it.minutes = got;
            plan.men++;
            return true;
        }

        private boolean readHouse() {
            if (plan.houses >= MAX_HOUSES) {
                return fail(FAULT_MUCH);
            }
            advance();
            if (!isNewName(plan.findHouse(value))) {
                return false;
            }
            House it = plan.house[plan.houses];
            it.begin(value);
            advance();
            if (!isToldName(plan.findFront(value))) {
                return false;
            }
            it.front = plan.findFront(value);
            advance();
            if (!isToldName(plan.findMan(value))) {
                return false;
            }
            it.man = plan.findMan(value);
            advance();
            if (!readWhere(it) || !readHouseParts(it)) {
                return false;
            }
            plan.houses++;
            return true;
        }

        private boolean readWhere(House it) {
            if (!takeNumber(0, 9)) {
                return false;
            }
            it.street = got;
            if (!takeNumber(0, 99)) {
                return false;
            }
            it.place = got;
            if (!takeNumber(1, 9)) {
                return false;
            }
            it.every = got;
            return true;
        }

        private boolean readHouseParts(House it) {
            boolean priced = false;
            boolean begun = false;
            for (int i = 0; i <= length; i++) {
                if (kind == PRICE && priced || kind == FROM && begun || kind == DOG && it.dog) {
                    return fail(FAULT_AGAIN);
                }
                boolean read = true;
                switch (kind) {
                    case NOT:
                    case HOME:
                        read = readWeekday(it);
                        break;
                    case PRICE:
                        advance();
                        read = takeNumber(0, 999);
                        it.price = got;
                        priced = true;
                        break;
                    case FROM:
                        advance();
                        read = takeNumber(0, DAYS - 1);
                        it.from = got;
                        begun = true;
                        break;
                    case DOG:
                        advance();
                        it.dog = true;
                        break;
                    default:
                        return true;
                }
                if (!read) {
                    return false;
                }
            }
            return true;
        }

        private boolean readWeekday(House it) {
            boolean opens = kind == HOME;
            advance();
            if (!isFreshBit(opens ? it.opens : it.wont, WEEK - 1)) {
                return false;
            }
            if (opens) {
                it.opens |= 1 << value;
            } else {
                it.wont |= 1 << value;
            }
            advance();
            return true;
        }

        private boolean readWet() {
            advance();
            if (!takeNumber(0, DAYS - 1)) {
                return false;
            }
            int first = got;
            if (kind == TO) {
                advance();
                if (!takeNumber(first, DAYS - 1)) {
                    return false;
                }
            }
            for (int day = first; day <= got && day < DAYS; day++) {
                plan.wet[day] = true;
            }
            return true;
        }

        private boolean readTank() {
            if (plan.tankHolds > 0) {
                return fail(FAULT_AGAIN);
            }
            advance();
            if (!takeNumber(1, 999)) {
                return false;
            }
            plan.tankHolds = got;
            if (!takeNumber(1, 99)) {
                return false;
            }
            plan.tankTakes = got;
            return true;
        }

        private boolean readRule(Formula formula) {
            if (formula.size > 0) {
                return fail(FAULT_AGAIN);
            }
            advance();
            waitings = 0;
            open = 0;
            boolean wantsValue = true;
            for (int i = 0; i <= length; i++) {
                if (!wantsValue && open == 0 && rank(kind) == 0) {
                    settle(formula, 0);
                    return true;
                }
                boolean opening = kind == OPEN || kind == NOT;
                boolean closing = kind == SHUT;
                if (!(wantsValue ? readValue(formula) : readJoint(formula))) {
                    return false;
                }
                wantsValue = wantsValue ? opening : !closing;
                advance();
            }
            return fail(FAULT_TOKEN);
        }

        /** What may stand where a value is wanted: a number, a name, not, an opening. */
        private boolean readValue(Formula formula) {
            if (kind == OPEN) {
                if (open >= MAX_OPEN) {
                    return fail(FAULT_MUCH);
                }
                open++;
                return await(OPEN);
            }
            if (kind == NUMBER) {
                if (!isNumber(0, 9999) || !hasRoomForKnot()) {
                    return false;
                }
                formula.add(value);
                return true;
            }
            if (kind == NOT && rank(latestWaiting()) <= rank(NOT)) {
                return hasRoomForKnot() && await(NOT);
            }
            if (kind < WAITS || kind >= WAITS + NAMES) {
                return fail(FAULT_TOKEN);
            }
            if (!hasRoomForKnot()) {
                return false;
            }
            formula.add(-1 - kind);
            return true;
        }

        /** What may stand behind a value: a joining sign or word, a closing. */
        private boolean readJoint(Formula formula) {
            if (kind == SHUT && open > 0) {
                settle(formula, 0);
                waitings--;
                open--;
                return true;
            }
            int rank = rank(kind);
            if (rank == 0 || kind == NOT) {
                return fail(FAULT_TOKEN);
            }
            boolean compares = rank == rank(EQUAL);
            settle(formula, compares ? rank : rank - 1);
            if (compares && rank(latestWaiting()) == rank) {
                return fail(FAULT_TOKEN);
            }
            return hasRoomForKnot() && await(kind);
        }

        /** How closely a sign binds; 0 for what joins nothing. */
        private static int rank(int kind) {
            switch (kind) {
                case OR: return 1;
                case AND: return 2;
                case NOT: return 3;
                case LESS:
                case LESS_EQUAL:
                case EQUAL:
                case UNEQUAL:
                case GREATER_EQUAL:
                case GREATER: return 4;
                case PLUS:
                case MINUS: return 5;
                case STAR:
                case SLASH: return 6;
                default: return 0;
            }
        }

        /** Signs that wait and bind closer than a rank are worked out ahead of what comes. */
        private void settle(Formula formula, int rank) {
            for (int i = waitings; i > 0 && rank(waiting[i - 1]) > rank; i--) {
                formula.add(-1 - waiting[i - 1]);
                waitings--;
            }
        }

        private int latestWaiting() {
            return waitings > 0 ? waiting[waitings - 1] : OPEN;
        }

        private boolean await(int sign) {
            if (waitings >= waiting.length) {
                return fail(FAULT_MUCH);
            }
            waiting[waitings] = sign;
            waitings++;
            return true;
        }

        /** Knots are those written already and those that wait, in both rules. */
        private boolean hasRoomForKnot() {
            int knots = plan.knots() + waitings - open;
            return knots < MAX_KNOTS || fail(FAULT_MUCH);
        }

        private boolean isNewName(int found) {
            if (kind != FREE_WORD) {
                return fail(FAULT_TOKEN);
            }
            return found == NONE || fail(FAULT_AGAIN);
        }

        private boolean isToldName(int found) {
            if (kind != FREE_WORD) {
                return fail(FAULT_TOKEN);
            }
            return found != NONE || fail(FAULT_UNTOLD);
        }

        private boolean isNumber(int low, int up) {
            if (kind != NUMBER) {
                return fail(FAULT_TOKEN);
            }
            return value >= low && value <= up || fail(FAULT_MUCH);
        }

        private boolean takeNumber(int low, int up) {
            if (!isNumber(low, up)) {
                return false;
            }
            got = value;
            advance();
            return true;
        }

        private boolean isFreshBit(int bits, int up) {
            if (kind != NUMBER) {
                return fail(FAULT_TOKEN);
            }
            if (value > up) {
                return fail(FAULT_MUCH);
            }
            return (bits >> value & 1) == 0 || fail(FAULT_AGAIN);
        }
    }

    /** Finds the fewest settings; the latest answer for each front is kept, as its row is asked piece by piece. */
    private static final class Fewest {
        final int[] size = new int[MAX_FRONTS];
        private final int[] askedTools = new int[MAX_FRONTS];
        private final boolean[] askedHeld = new boolean[MAX_FRONTS];
        private final int[] covered = new int[MAX_FRONTS];
        private final int[] minutes = new int[MAX_FRONTS];
        private final int[] polePanes = new int[MAX_FRONTS];
        private final int[] row = new int[MAX_FRONTS * MAX_PANES];
        private final int[] tall = new int[MAX_TOOLS * MAX_DISTANCE];
        private final int[] nearLadder = new int[MAX_WIDE];
        private final int[] nearPole = new int[MAX_WIDE];
        private final int[] widest = new int[MAX_TOOLS * MAX_WIDE * MAX_DISTANCE];
        private final int[] holding = new int[MAX_TOOLS * MAX_WIDE * MAX_DISTANCE];
        private final int[] least = new int[1 << MAX_PANES];
        private int widests = 0;

        Fewest() {
            for (int i = 0; i < MAX_FRONTS; i++) {
                askedTools[i] = NONE;
            }
        }

        void forget() {
            for (int i = 0; i < MAX_FRONTS; i++) {
                askedTools[i] = NONE;
            }
        }

        int missed(Plan plan, int front, int tools, boolean held) {
            solve(plan, front, tools, held);
            return (1 << plan.front[front].panes) - 1 & ~covered[front];
        }

        int timeFor(Plan plan, int front, int tools, boolean held) {
            solve(plan, front, tools, held);
            return minutes[front];
        }

        /** Panes that poles wipe, each by the first setting that covers it. */
        int panesByPoles(Plan plan, int front) {
            solve(plan, front, plan.tools.allBits(), false);
            return polePanes[front];
        }

        int settingOf(int front, int index) {
            return index >= 0 && index < size[front] ? row[front * MAX_PANES + index] : NONE;
        }

        void solve(Plan plan, int front, int tools, boolean held) {
            if (askedTools[front] == tools && askedHeld[front] == held) {
                return;
            }
            askedTools[front] = tools;
            askedHeld[front] = held;
            Front it = plan.front[front];
            lookAtHeights(plan.tools, it, tools);
            lookAtColumns(it, held);
            covered[front] = gatherWidest(plan.tools, it.wide);
            countLeast(it.panes);
            chooseRow(plan.tools, it.wide, front);
        }

        private void lookAtHeights(Tools tools, Front it, int bits) {
            for (int tool = 0; tool < tools.total(); tool++) {
                for (int distance = 1; distance <= MAX_DISTANCE; distance++) {
                    int reach = (bits >> tool & 1) != 0 ? tools.reach(tool, distance) : NONE;
                    tall[tool * MAX_DISTANCE + distance - 1] = reach == NONE ? 0
                            : it.panesBetween(tools.lowest(tool, reach), tools.highest(tool, reach));
                }
            }
        }

        private void lookAtColumns(Front it, boolean held) {
            for (int column = 0; column < it.wide; column++) {
                int near = it.panesNear(column);
                nearLadder[column] = it.bears(column, true, held) ? near : 0;
                nearPole[column] = it.bears(column, false, held) ? near : 0;
            }
        }

        /** Panes of a setting that counts; 0 also for one that may not stand, as neither is ever chosen. */
        private int panesOf(Tools tools, int tool, int column, int distance) {
            int near = tools.isLadder(tool) ? nearLadder[column] : nearPole[column];
            return near & tall[tool * MAX_DISTANCE + distance - 1];
        }

        /** Settings that cover no more than another need no look when only their number is asked. */
        private int gatherWidest(Tools tools, int wide) {
            int all = 0;
            widests = 0;
            for (int tool = 0; tool < tools.total(); tool++) {
                for (int column = 0; column < wide; column++) {
                    for (int distance = 1; distance <= MAX_DISTANCE; distance++) {
                        int panes = panesOf(tools, tool, column, distance);
                        if (panes != 0) {
                            widests = addWidest(widest, widests, panes);
                            all |= panes;
                        }
                    }
                }
            }
            return all;
        }

        /** The list keeps only sets of which none is within another; answers its new size. */
        private static int addWidest(int[] list, int size, int panes) {
            int kept = 0;
            for (int i = 0; i < size; i++) {
                int other = list[i];
                if ((panes & ~other) == 0) {
                    return size;
                }
                if ((other & ~panes) != 0) {
                    list[kept] = other;
                    kept++;
                }
            }
            if (kept < list.length) {
                list[kept] = panes;
                kept++;
            }
            return kept;
        }

        /**
         * For each set of panes how many settings it takes at least. A set's lowest pane must be
         * covered by some setting; what is left has a higher lowest pane, so these come first.
         */
        private void countLeast(int panes) {
            least[0] = 0;
            for (int lowest = panes - 1; lowest >= 0; lowest--) {
                int holders = 0;
                for (int i = 0; i < widests; i++) {
                    if ((widest[i] >> lowest & 1) != 0) {
                        holders = addWidest(holding, holders, widest[i] >> lowest);
                    }
                }
                for (int higher = 0; higher < 1 << panes - 1 - lowest; higher++) {
                    least[(higher << 1 | 1) << lowest] = leastFor(higher << 1 | 1, lowest, holders);
                }
            }
        }

        private int leastFor(int set, int lowest, int holders) {
            if (holders == 0) {
                return least[(set & ~1) << lowest];
            }
            int best = MAX_PANES;
            for (int i = 0; i < holders; i++) {
                best = Math.min(best, 1 + least[(set & ~holding[i]) << lowest]);
            }
            return best;
        }

        /** The first setting that any fewest row holds is taken, then the first that goes with it, and so on. */
        private void chooseRow(Tools tools, int wide, int front) {
            int left = covered[front];
            size[front] = 0;
            polePanes[front] = 0;
            minutes[front] = 2 * Integer.bitCount(left);
            for (int tool = 0; tool < tools.total(); tool++) {
                for (int column = 0; column < wide; column++) {
                    for (int distance = 1; distance <= MAX_DISTANCE; distance++) {
                        int panes = left & panesOf(tools, tool, column, distance);
                        if (panes != 0 && least[left & ~panes] == least[left] - 1) {
                            take(front, tools.isLadder(tool), tool + 16 * column + 256 * distance, panes);
                            left &= ~panes;
                        }
                    }
                }
            }
        }

        private void take(int front, boolean ladder, int setting, int panes) {
            if (size[front] >= MAX_PANES) {
                return;
            }
            row[front * MAX_PANES + size[front]] = setting;
            size[front]++;
            minutes[front] += ladder ? 6 : 3;
            polePanes[front] += ladder ? 0 : Integer.bitCount(panes);
        }
    }

    /**
     * What has become of the houses, day by day, and the notes. An image is a book that shares the
     * rows of days and notes: these only grow behind what the image knows of them.
     */
    private static final class Book {
        int next = 0;
        int notes = 0;
        final int[] man = new int[MAX_HOUSES];
        final int[] due = new int[MAX_HOUSES];
        final int[] times = new int[MAX_HOUSES];
        final int[] letters = new int[MAX_HOUSES];
        final int[] complaints = new int[MAX_HOUSES];
        final boolean[] lasting = new boolean[MAX_HOUSES];
        final int[] last = new int[MAX_HOUSES];
        final int[] paid = new int[MAX_HOUSES];
        final int[] wipes;
        private final long[] ways;
        private final int[] noteHouse;
        private final int[] noteSum;
        private final int[] noteStrikes;
        private final boolean[] struck;

        Book(Book shared) {
            wipes = shared == null ? new int[DAYS] : shared.wipes;
            ways = shared == null ? new long[DAYS * MAX_MEN] : shared.ways;
            noteHouse = shared == null ? new int[MAX_NOTES] : shared.noteHouse;
            noteSum = shared == null ? new int[MAX_NOTES] : shared.noteSum;
            noteStrikes = shared == null ? new int[MAX_NOTES] : shared.noteStrikes;
            struck = shared == null ? new boolean[MAX_NOTES] : shared.struck;
        }

        void begin(Plan plan) {
            next = 0;
            notes = 0;
            for (int house = 0; house < MAX_HOUSES; house++) {
                man[house] = plan.house[house].man;
                due[house] = plan.house[house].from;
                times[house] = 0;
                letters[house] = 0;
                complaints[house] = 0;
                lasting[house] = false;
                last[house] = NONE;
                paid[house] = 0;
            }
        }

        void copyFrom(Book other) {
            next = other.next;
            notes = other.notes;
            for (int house = 0; house < MAX_HOUSES; house++) {
                man[house] = other.man[house];
                due[house] = other.due[house];
                times[house] = other.times[house];
                letters[house] = other.letters[house];
                complaints[house] = other.complaints[house];
                lasting[house] = other.lasting[house];
                last[house] = other.last[house];
                paid[house] = other.paid[house];
            }
        }

        boolean isDone(int day) {
            return day >= 0 && day < next && day < DAYS;
        }

        int sumOf(int[] numbers, int houses) {
            int sum = 0;
            for (int house = 0; house < houses && house < numbers.length; house++) {
                sum += numbers[house];
            }
            return sum;
        }

        void openDay(int day) {
            wipes[day] = 0;
            for (int who = 0; who < MAX_MEN; who++) {
                ways[day * MAX_MEN + who] = 0;
            }
        }

        // A way is one long: how many houses in its lowest four bits, then four bits for each house.

        void addToWay(int day, int who, int house) {
            int at = day * MAX_MEN + who;
            int length = wayLength(day, who);
            ways[at] = (ways[at] | (long) house << 4 + 4 * length) + 1;
            wipes[day] |= 1 << house;
        }

        int wayLength(int day, int who) {
            return (int) (ways[day * MAX_MEN + who] & 15);
        }

        int wayHouse(int day, int who, int index) {
            if (index < 0 || index >= wayLength(day, who)) {
                return NONE;
            }
            return (int) (ways[day * MAX_MEN + who] >>> 4 + 4 * index & 15);
        }

        int addNote(int house, int sum, int strikes) {
            if (notes >= MAX_NOTES) {
                return NONE;
            }
            noteHouse[notes] = house;
            noteSum[notes] = sum;
            noteStrikes[notes] = strikes;
            notes++;
            return notes - 1;
        }

        /** What a house paid by the first n notes. */
        int known(int house, int n) {
            for (int i = 0; i < n; i++) {
                struck[i] = false;
            }
            int sum = 0;
            for (int i = n - 1; i >= 0; i--) {
                if (struck[i]) {
                    continue;
                }
                if (noteStrikes[i] != NONE) {
                    struck[noteStrikes[i]] = true;
                } else if (noteHouse[i] == house) {
                    sum += noteSum[i];
                }
            }
            return sum;
        }

        int owing(Plan plan, int house, int n) {
            return times[house] * plan.house[house].price - paid[house] - known(house, n);
        }

        int firstUnpaid(Plan plan, int house, int n) {
            int price = plan.house[house].price;
            if (price <= 0) {
                return NONE;
            }
            int reached = (paid[house] + known(house, n)) / price;
            for (int day = 0; day < next && day < DAYS; day++) {
                if ((wipes[day] >> house & 1) != 0) {
                    if (reached == 0) {
                        return day;
                    }
                    reached--;
                }
            }
            return NONE;
        }

        int worthOf(Plan plan, int who) {
            int sum = 0;
            for (int house = 0; house < plan.houses; house++) {
                if (man[house] == who) {
                    sum += plan.house[house].value();
                }
            }
            return sum;
        }
    }

    /** The days' work. */
    private static final class Work {
        private final Book book;
        private final Fewest fewest;
        private Plan plan = null;
        private final int[] known = new int[MAX_HOUSES];
        private final int[] takes = new int[MAX_HOUSES];
        private final int[] turn = new int[MAX_HOUSES];
        private int turns = 0;
        private final long[] facts = new long[NAMES];
        private final long[] stack = new long[MAX_KNOTS];

        Work(Book itsBook, Fewest itsFewest) {
            book = itsBook;
            fewest = itsFewest;
        }

        void goOn(Plan itsPlan, int n) {
            plan = itsPlan;
            for (int house = 0; house < plan.houses; house++) {
                known[house] = book.known(house, book.notes);
                takes[house] = fewest.timeFor(plan, plan.house[house].front, plan.tools.allBits(), false);
            }
            for (int i = 0; i < n && book.next < DAYS; i++) {
                workDay(book.next);
                book.next++;
            }
        }

        int wayMinutes(Plan itsPlan, int man, int day) {
            plan = itsPlan;
            int sum = 0;
            for (int i = 0; i < book.wayLength(day, man); i++) {
                int front = plan.house[book.wayHouse(day, man, i)].front;
                sum += fewest.timeFor(plan, front, plan.tools.allBits(), false);
            }
            return sum;
        }

        int wayPolePanes(Plan itsPlan, int man, int day) {
            plan = itsPlan;
            int sum = 0;
            for (int i = 0; i < book.wayLength(day, man); i++) {
                int front = plan.house[book.wayHouse(day, man, i)].front;
                sum += fewest.panesByPoles(plan, front);
            }
            return sum;
        }

        private void workDay(int day) {
            book.openDay(day);
            if (!plan.wet[day]) {
                for (int man = 0; man < plan.men; man++) {
                    planTurns(man, day);
                    goRound(man, day);
                }
            }
            for (int house = 0; house < plan.houses; house++) {
                hearComplaint(house, day);
            }
        }

        /** Those due, the longest waiting first; those left out get a letter. */
        private void planTurns(int man, int day) {
            turns = 0;
            for (int house = 0; house < plan.houses; house++) {
                if (book.man[house] != man || book.due[house] > day) {
                    continue;
                }
                if (plan.house[house].letsIn(day % WEEK) && (plan.trust.size == 0 || holds(plan.trust, house, day))) {
                    addTurn(house);
                } else {
                    book.letters[house]++;
                }
            }
        }

        /** Houses come by their numbers, so of those that wait alike the least stays ahead. */
        private void addTurn(int house) {
            int at = turns;
            for (int i = turns; i > 0 && book.due[turn[i - 1]] > book.due[house]; i--) {
                turn[i] = turn[i - 1];
                at = i - 1;
            }
            turn[at] = house;
            turns++;
        }

        private void goRound(int man, int day) {
            int left = plan.man[man].minutes;
            int where = NONE;
            for (int i = 0; i < turns; i++) {
                int house = turn[i];
                int spent = plan.onward(man, where, house) + takes[house];
                if (spent + plan.homeward(man, house) <= left) {
                    left -= spent;
                    where = house;
                    book.addToWay(day, man, house);
                    wipe(house, day);
                }
            }
        }

        private void wipe(int house, int day) {
            House it = plan.house[house];
            book.times[house]++;
            book.last[house] = day;
            book.due[house] = day + WEEK * it.every;
            book.lasting[house] = false;
            if (it.isOpen(day % WEEK)) {
                book.paid[house] += Math.max(0, owes(house));
            }
        }

        private int owes(int house) {
            return book.times[house] * plan.house[house].price - book.paid[house] - known[house];
        }

        private void hearComplaint(int house, int day) {
            if (plan.complain.size == 0 || book.due[house] > day || book.lasting[house]) {
                return;
            }
            if (holds(plan.complain, house, day)) {
                book.lasting[house] = true;
                book.complaints[house]++;
            }
        }

        /** With an error a rule doesn't hold: nobody complains by it, nobody is trusted by it. */
        private boolean holds(Formula rule, int house, int day) {
            facts[0] = day - book.due[house];
            facts[OWES - WAITS] = owes(house);
            facts[TIMES - WAITS] = book.times[house];
            facts[PRICE - WAITS] = plan.house[house].price;
            facts[EVERY - WAITS] = plan.house[house].every;
            facts[DAY - WAITS] = day;
            long value = rule.work(facts, stack);
            return value != 0 && value != ERROR;
        }
    }

    /** Ways, tours, and who had better take which house. */
    private static final class Trips {
        private final Book book;
        private Plan plan = null;
        private int[] nearest = null;
        private final int[] stops = new int[MAX_SHORTEST];
        private int stopCount = 0;
        private final int[] order = new int[MAX_SHORTEST];
        private final int[] sorted = new int[MAX_HOUSES];
        private final int[] rank = new int[MAX_HOUSES];
        private boolean toursKnown = false;
        private int[] tours = null;
        private int swapLoss = NONE;
        private int swapSum = 0;
        private final int[] swapped = new int[MAX_HOUSES];
        private final int[] trial = new int[MAX_HOUSES];
        private final int[] valueBehind = new int[MAX_HOUSES + 1];
        private final int[] lacks = new int[MAX_MEN];
        private final int[] round = new int[MAX_MEN];

        Trips(Book itsBook) {
            book = itsBook;
        }

        void forgetPlan() {
            toursKnown = false;
            swapLoss = NONE;
        }

        void forgetSwap() {
            swapLoss = NONE;
        }

        int wayWalk(Plan itsPlan, int man, int day) {
            int sum = 0;
            int where = NONE;
            for (int i = 0; i < book.wayLength(day, man); i++) {
                int house = book.wayHouse(day, man, i);
                sum += itsPlan.onward(man, where, house);
                where = house;
            }
            return sum + itsPlan.homeward(man, where);
        }

        /** The least walk of a way of at most MAX_SHORTEST houses; its order is then known, too. */
        int findShortest(Plan itsPlan, int man, int day) {
            plan = itsPlan;
            gatherStops(man, day);
            if (stopCount == 0) {
                return 0;
            }
            if (nearest == null) {
                nearest = new int[(1 << MAX_SHORTEST) * MAX_SHORTEST];
            }
            for (int been = (1 << stopCount) - 1; been > 0; been--) {
                for (int at = 0; at < stopCount; at++) {
                    if ((been >> at & 1) != 0) {
                        nearest[been * MAX_SHORTEST + at] = leastOnward(man, been, at);
                    }
                }
            }
            int least = leastOnward(man, 0, NONE);
            orderStops(man, least);
            return least;
        }

        int shortestHouse(int index) {
            return index >= 0 && index < stopCount ? order[index] : NONE;
        }

        /** By rising numbers, so that the first of equal orders is found first. */
        private void gatherStops(int man, int day) {
            int bits = 0;
            for (int i = 0; i < book.wayLength(day, man); i++) {
                bits |= 1 << book.wayHouse(day, man, i);
            }
            stopCount = 0;
            for (int house = 0; house < MAX_HOUSES; house++) {
                if ((bits >> house & 1) != 0 && stopCount < MAX_SHORTEST) {
                    stops[stopCount] = house;
                    stopCount++;
                }
            }
        }

        /** The least walk from a stop (NONE: home) by all stops where he hasn't been, and home. */
        private int leastOnward(int man, int been, int at) {
            int least = Integer.MAX_VALUE;
            for (int to = 0; to < stopCount; to++) {
                if ((been >> to & 1) == 0) {
                    least = Math.min(least, walkBy(man, been, at, to));
                }
            }
            return least == Integer.MAX_VALUE ? plan.homeward(man, at == NONE ? NONE : stops[at]) : least;
        }

        private int walkBy(int man, int been, int at, int to) {
            int step = plan.onward(man, at == NONE ? NONE : stops[at], stops[to]);
            return step + nearest[(been | 1 << to) * MAX_SHORTEST + to];
        }

        private void orderStops(int man, int least) {
            int left = least;
            int been = 0;
            int at = NONE;
            for (int i = 0; i < stopCount; i++) {
                int chosen = NONE;
                for (int to = 0; to < stopCount && chosen == NONE; to++) {
                    if ((been >> to & 1) == 0 && walkBy(man, been, at, to) == left) {
                        chosen = to;
                    }
                }
                if (chosen == NONE) {
                    return;
                }
                been |= 1 << chosen;
                at = chosen;
                order[i] = stops[chosen];
                left = nearest[been * MAX_SHORTEST + chosen];
            }
        }

        int tourOf(Plan itsPlan, int man) {
            plan = itsPlan;
            sortHouses();
            int sum = 0;
            int where = NONE;
            for (int i = 0; i < plan.houses; i++) {
                if (book.man[sorted[i]] == man) {
                    sum += plan.onward(man, where, sorted[i]);
                    where = sorted[i];
                }
            }
            return sum + plan.homeward(man, where);
        }

        private void sortHouses() {
            for (int house = 0; house < plan.houses; house++) {
                int at = house;
                for (int i = house; i > 0 && isBehind(sorted[i - 1], house); i--) {
                    sorted[i] = sorted[i - 1];
                    at = i - 1;
                }
                sorted[at] = house;
            }
            for (int i = 0; i < plan.houses; i++) {
                rank[sorted[i]] = i;
            }
        }

        private boolean isBehind(int house, int other) {
            House a = plan.house[house];
            House b = plan.house[other];
            return a.street != b.street ? a.street > b.street : a.place > b.place;
        }

        int findSwap(Plan itsPlan, int loss) {
            plan = itsPlan;
            if (swapLoss == loss) {
                return swapSum;
            }
            swapLoss = loss;
            prepareTours();
            int now = 0;
            for (int man = 0; man < plan.men; man++) {
                lacks[man] = book.worthOf(plan, man) - loss;
                round[man] = 0;
                now += tourOf(plan, man);
            }
            valueBehind[plan.houses] = 0;
            for (int house = plan.houses - 1; house >= 0; house--) {
                valueBehind[house] = valueBehind[house + 1] + plan.house[house].value();
            }
            // As things are now is allowed; one that walks as much but comes first is wanted.
            swapSum = now + 1;
            giveAway(0, 0);
            return swapSum;
        }

        int swapMan(int house) {
            return house >= 0 && house < MAX_HOUSES ? swapped[house] : NONE;
        }

        /** Walks of all rounds by sets of houses (bits by rank): each from the one without its last house. */
        private void prepareTours() {
            if (toursKnown) {
                return;
            }
            toursKnown = true;
            sortHouses();
            if (tours == null) {
                tours = new int[MAX_MEN << MAX_HOUSES];
            }
            for (int man = 0; man < plan.men; man++) {
                tours[man << MAX_HOUSES] = 0;
                for (int last = 0; last < plan.houses; last++) {
                    prepareToursEndingAt(man, last);
                }
            }
        }

        private void prepareToursEndingAt(int man, int last) {
            int base = man << MAX_HOUSES;
            int end = sorted[last];
            int before = NONE;
            for (int rest = 0; rest < 1 << last; rest++) {
                if (rest == 1 << before + 1) {
                    before++;
                }
                int from = before == NONE ? NONE : sorted[before];
                tours[base + (rest | 1 << last)] = tours[base + rest] - plan.homeward(man, from)
                        + plan.onward(man, from, end) + plan.homeward(man, end);
            }
        }

        /**
         * Tries men for this house and those behind it. A round never gets shorter by one more
         * house, so what walks as much as the best already is given up.
         */
        private void giveAway(int house, int sum) {
            if (house >= plan.houses) {
                swapSum = sum;
                for (int i = 0; i < plan.houses; i++) {
                    swapped[i] = trial[i];
                }
                return;
            }
            int value = plan.house[house].value();
            int bit = 1 << rank[house];
            for (int man = 0; man < plan.men; man++) {
                int base = man << MAX_HOUSES;
                int walk = sum - tours[base + round[man]] + tours[base + (round[man] | bit)];
                lacks[man] -= value;
                if (walk < swapSum && allLacks() <= valueBehind[house + 1]) {
                    round[man] |= bit;
                    trial[house] = man;
                    giveAway(house + 1, walk);
                    round[man] &= ~bit;
                }
                lacks[man] += value;
            }
        }

        private int allLacks() {
            int sum = 0;
            for (int man = 0; man < plan.men; man++) {
                sum += Math.max(0, lacks[man]);
            }
            return sum;
        }
    }
}
