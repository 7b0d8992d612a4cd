import java.util.NoSuchElementException;
import java.util.Random;

/** All promises: runs of chosen calls, each answered by PaneRounds and by SlowRounds alike. */
public final class TwinTest {
    private static final String[] NAMES = {"waits", "owes", "times", "price", "every", "day"};
    private final Random random;
    private final PaneRounds x = new PaneRounds();
    private final SlowRounds y = new SlowRounds();
    private final boolean small;
    private final boolean crowded;
    private String text = "";
    private int run;

    private TwinTest(int run) {
        this.run = run;
        random = new Random(run);
        small = run % 4 != 0;
        crowded = run % 4 == 1;
    }

    public static void main(String[] args) {
        int runs = args.length > 0 ? Integer.parseInt(args[0]) : 400;
        int first = args.length > 1 ? Integer.parseInt(args[1]) : 0;
        for (int run = first; run < first + runs && !Kit.isWrong(); run++) {
            TwinTest t = new TwinTest(run);
            t.go();
            if (Kit.isWrong()) {
                System.out.println("run " + run + ", text: " + t.text);
            }
        }
        Kit.end();
    }

    private int pick(int most) {
        return random.nextInt(most);
    }

    private int between(int least, int most) {
        return least + pick(most - least + 1);
    }

    /** A number near what is allowed, now and then just beyond it. */
    private int near(int least, int most) {
        int odd = pick(60);
        return odd == 0 ? most + 1 : odd == 1 ? least - 1 : odd == 2 ? Integer.MIN_VALUE : odd == 3 ? Integer.MAX_VALUE : between(least, most);
    }

    private void go() {
        tell();
        for (int i = 0; i < 120; i++) {
            if (pick(80) == 0) {
                tell();
            }
            call();
            if (Kit.isWrong()) {
                return;
            }
        }
    }

    private void due(String call, long got, long want) {
        Kit.due("run " + run + ": " + call, got, want);
    }

    private void tell() {
        String told = makeText();
        if (pick(6) == 0 && told.length() > 0) {
            told = spoil(told);
        }
        text = told;
        for (int at = 0; at < told.length(); at += 20) {
            int[] n = new int[5];
            for (int i = 0; i < 20; i++) {
                n[i / 4] = n[i / 4] << 8 | (at + i < told.length() ? told.charAt(at + i) : 32);
            }
            due("feed", x.feed(n[0], n[1], n[2], n[3], n[4]), y.feed(n[0], n[1], n[2], n[3], n[4]));
        }
        int n = pick(30) == 0 ? near(0, 900) : told.length();
        due("text(" + n + ")", x.text(n), y.text(n));
        due("fault(0)", x.fault(0), y.fault(0));
        due("fault(1)", x.fault(1), y.fault(1));
        for (int what = -1; what <= 13; what++) {
            due("count(" + what + ")", x.count(what), y.count(what));
        }
    }

    private String spoil(String told) {
        int at = pick(told.length());
        String signs = " ;()<>=+-*/0123456789abmndr$\t";
        return switch (pick(4)) {
            case 0 -> told.substring(0, at) + told.substring(at + 1);
            case 1 -> told.substring(0, at) + signs.charAt(pick(signs.length())) + told.substring(at + 1);
            case 2 -> pick(2) == 0 ? told.substring(0, at) : told.replaceFirst("[0-9]+", "" + pick(40));
            default -> told.substring(0, at) + signs.charAt(pick(signs.length())) + told.substring(at);
        };
    }

    private String makeText() {
        StringBuilder b = new StringBuilder();
        int ladders = between(0, 4);
        int poles = between(0, small ? 1 : 3);
        for (int i = 0; i < ladders; i++) {
            b.append("ladder l").append((char) ('a' + i)).append(' ').append(between(4, 30)).append(";\n");
        }
        for (int i = 0; i < poles; i++) {
            b.append("pole p").append((char) ('a' + i)).append(' ').append(between(4, 40)).append(' ').append(pick(10)).append(';');
        }
        int fronts = between(1, crowded ? 1 : small ? 2 : 3);
        for (int i = 0; i < fronts; i++) {
            b.append("front f").append((char) ('a' + i));
            makeFront(b);
        }
        int men = between(1, crowded ? 2 : 3);
        for (int i = 0; i < men; i++) {
            b.append("man m").append((char) ('a' + i)).append(' ').append(pick(3)).append(' ').append(pick(30)).append(' ')
                    .append(crowded ? between(200, 600) : between(10, pick(3) == 0 ? 600 : 120)).append(';');
        }
        int houses = crowded ? between(6, 10) : between(0, small ? 6 : 8);
        for (int i = 0; i < houses; i++) {
            b.append("house h").append((char) ('a' + i)).append(" f").append((char) ('a' + pick(fronts))).append(" m")
                    .append((char) ('a' + pick(men)));
            makeHouse(b);
        }
        for (int i = pick(3); i > 0; i--) {
            int day = pick(200);
            b.append("wet ").append(day);
            if (pick(2) == 0) {
                b.append(" to ").append(between(day, Math.min(199, day + 20)));
            }
            b.append(';');
        }
        if (pick(crowded ? 6 : 3) > 0) {
            b.append("complain ").append(makeRule(pick(4))).append(';');
        }
        if (!crowded && pick(3) > 0) {
            b.append("trust ").append(pick(3) == 0 ? makeRule(pick(4)) : "owes<" + pick(60) + " or " + makeRule(1)).append(';');
        }
        if (pick(2) > 0) {
            b.append("tank ").append(between(1, 60)).append(' ').append(between(1, 20)).append(';');
        }
        return b.length() > 900 ? b.substring(0, 900) : b.toString();
    }

    private void makeFront(StringBuilder b) {
        int wide = between(1, 12);
        int high = between(1, 24);
        b.append(' ').append(wide).append(' ').append(high);
        for (int i = pick(small ? 8 : 11); i > 0; i--) {
            b.append(" pane ").append(pick(wide)).append(' ').append(between(1, high));
            if (pick(40) > 0 && isDoubled(b.toString())) {
                b.setLength(b.lastIndexOf(" pane"));
            }
        }
        for (int column = 0; column < wide; column++) {
            if (pick(5) == 0) {
                b.append(pick(2) == 0 ? " block " : " soft ").append(column);
            }
        }
        b.append(';');
    }

    private static boolean isDoubled(String told) {
        String latest = told.substring(told.lastIndexOf(" pane"));
        String ahead = told.substring(told.lastIndexOf("front"), told.lastIndexOf(" pane")) + " ";
        return ahead.contains(latest + " ");
    }

    private void makeHouse(StringBuilder b) {
        b.append(' ').append(pick(3)).append(' ').append(pick(30)).append(' ').append(between(1, 4));
        if (pick(crowded ? 9 : 3) == 0) {
            b.append(" not ").append(pick(7));
        }
        if (pick(2) == 0) {
            b.append(" home ").append(pick(7));
        }
        if (pick(4) == 0) {
            b.append(" dog");
        }
        if (pick(2) == 0) {
            b.append(" price ").append(pick(40));
        }
        if (pick(3) == 0) {
            b.append(" from ").append(pick(pick(2) == 0 ? 200 : 10));
        }
        b.append(';');
    }

    private String makeRule(int depth) {
        String[] signs = {"+", "-", "*", "/", "<", "<=", "=", "<>", ">=", ">", " and ", " or "};
        if (depth == 0) {
            return pick(3) == 0 ? "" + pick(pick(3) == 0 ? 10000 : 20) : NAMES[pick(6)];
        }
        return switch (pick(5)) {
            case 0 -> "not " + makeRule(depth - 1);
            case 1 -> "(" + makeRule(depth - 1) + ")" + signs[pick(12)] + "(" + makeRule(depth - 1) + ")";
            case 2 -> "9999*9999*9999*(" + makeRule(depth - 1) + ")";
            default -> makeRule(depth - 1) + signs[pick(12)] + makeRule(depth - 1);
        };
    }

    private void call() {
        int house = near(0, Math.max(0, y.count(4) - 1));
        int man = near(0, Math.max(0, y.count(3) - 1));
        int front = near(0, Math.max(0, y.count(2) - 1));
        int tools = near(0, (1 << y.count(0) + y.count(1)) - 1);
        int day = pick(7) == 0 ? near(0, 199) : near(0, Math.max(0, y.count(6) - 1));
        int n = near(-1, y.count(5));
        boolean held = pick(2) == 0;
        switch (pick(14)) {
            case 0, 1 -> goDays();
            case 2 -> {
                int sum = near(0, pick(3) == 0 ? 9999 : 60);
                due("pay(" + house + ", " + day + ", " + sum + ")", x.pay(house, day, sum), y.pay(house, day, sum));
            }
            case 3 -> {
                int note = near(0, Math.max(0, y.count(5) - 1));
                due("strike(" + note + ")", x.strike(note), y.strike(note));
            }
            case 4 -> due("sell(" + house + ", " + man + ")", x.sell(house, man) ? 1 : 0, y.sell(house, man) ? 1 : 0);
            case 5 -> images();
            case 6 -> settings(front, tools, held);
            case 7 -> told(house, front);
            case 8 -> days(house, man, day);
            case 9 -> {
                int loss = near(0, pick(2) == 0 ? 9999 : 500);
                for (int what = -1; what <= Math.min(2, y.count(4) + 1); what++) {
                    due("swap(" + loss + ", " + what + ")", x.swap(loss, what), y.swap(loss, what));
                }
                int what = near(0, y.count(4));
                due("swap(" + loss + ", " + what + ")", x.swap(loss, what), y.swap(loss, what));
            }
            case 10 -> {
                due("instead(" + tools + ")", x.instead(tools), y.instead(tools));
                due("worth(" + man + ")", x.worth(man), y.worth(man));
                due("tour(" + man + ")", x.tour(man), y.tour(man));
            }
            case 11 -> {
                due("balance(" + house + ", " + n + ")", x.balance(house, n), y.balance(house, n));
                due("oldest(" + house + ", " + n + ")", x.oldest(house, n), y.oldest(house, n));
                due("owed(" + man + ")", x.owed(man), y.owed(man));
            }
            case 12 -> single(front, tools, held);
            default -> {
                for (int what = -1; what <= 13; what++) {
                    due("count(" + what + ")", x.count(what), y.count(what));
                }
            }
        }
    }

    private void goDays() {
        int n = pick(4) == 0 ? near(0, 200) : near(0, 12);
        due("days(" + n + ")", x.days(n), y.days(n));
        for (int house = 0; house < y.count(4); house++) {
            for (int what = -1; what <= 7; what++) {
                due("now(" + house + ", " + what + ")", x.now(house, what), y.now(house, what));
            }
        }
    }

    private void images() {
        if (pick(2) == 0) {
            due("keep()", x.keep(), y.keep());
        } else {
            due("back()", x.back(), y.back());
            for (int house = 0; house < y.count(4); house++) {
                due("look(" + house + ", 1)", x.look(house, 1), y.look(house, 1));
            }
        }
    }

    private void settings(int front, int tools, boolean held) {
        due("missing(" + front + ", " + tools + ", " + held + ")", x.missing(front, tools, held), y.missing(front, tools, held));
        due("minutes(" + front + ", " + tools + ", " + held + ")", x.minutes(front, tools, held), y.minutes(front, tools, held));
        int size = Math.max(0, y.fewest(front, tools, held, 0));
        for (int what = -1; what <= size + 1; what++) {
            String call = "fewest(" + front + ", " + tools + ", " + held + ", " + what + ")";
            due(call, x.fewest(front, tools, held, what), y.fewest(front, tools, held, what));
        }
    }

    private void single(int front, int tools, boolean held) {
        int wide = Math.max(1, y.front(front, 0));
        for (int i = 0; i < 20; i++) {
            int tool = near(0, 6);
            int column = near(0, wide - 1);
            int distance = near(1, 9);
            String where = "(" + front + ", " + tool + ", " + column + ", " + distance + ", " + held + ")";
            due("top" + where, x.top(front, tool, column, distance, held), y.top(front, tool, column, distance, held));
            due("covers" + where, x.covers(front, tool, column, distance, held), y.covers(front, tool, column, distance, held));
        }
    }

    private void told(int house, int front) {
        int what = near(0, 8);
        due("look(" + house + ", " + what + ")", lookX(house, what), lookY(house, what));
        due("front(" + front + ", " + what + ")", x.front(front, what), y.front(front, what));
        int pane = near(0, 11);
        due("pane(" + front + ", " + pane + ", " + what % 3 + ")", x.pane(front, pane, what % 3), y.pane(front, pane, what % 3));
        int kind = near(0, 3);
        String[] names = {"la", "lb", "pa", "fa", "fb", "ma", "mb", "ha", "hb", "hc", "l", ""};
        int letters = Kit.letters(names[pick(names.length)]);
        due("named(" + kind + ", " + letters + ")", x.named(kind, letters), y.named(kind, letters));
        int other = near(0, 9);
        due("walk(" + house + ", " + other + ")", x.walk(house, other), y.walk(house, other));
    }

    /** A day on which somebody was wiped, if chance finds one. */
    private int busyDay() {
        int day = pick(y.count(6));
        for (int i = 0; i < 5 && y.wiped(day) == 0; i++) {
            day = pick(3) == 0 ? 0 : pick(y.count(6));
        }
        return day;
    }

    private long lookX(int house, int what) {
        try {
            return x.look(house, what);
        } catch (IndexOutOfBoundsException e) {
            return e.getClass() == IndexOutOfBoundsException.class ? -11 : -13;
        } catch (NoSuchElementException e) {
            return -12;
        }
    }

    private long lookY(int house, int what) {
        try {
            return y.look(house, what);
        } catch (IndexOutOfBoundsException e) {
            return -11;
        } catch (NoSuchElementException e) {
            return -12;
        }
    }

    private void days(int house, int man, int day) {
        due("wet(" + day + ")", x.wet(day), y.wet(day));
        due("wiped(" + day + ")", x.wiped(day), y.wiped(day));
        for (int i = 0; i < 12; i++) {
            int what = near(0, crowded ? 9 : 6);
            int when = i == 0 || y.count(6) == 0 ? day : busyDay();
            due("way(" + man + ", " + when + ", " + what + ")", x.way(man, when, what), y.way(man, when, what));
            due("shortest(" + man + ", " + when + ", " + what + ")", x.shortest(man, when, what), y.shortest(man, when, what));
            due("tanks(" + man + ", " + when + ")", x.tanks(man, when), y.tanks(man, when));
        }
        due("now(" + house + ", 0)", x.now(house, 0), y.now(house, 0));
    }
}
