import java.util.NoSuchElementException;

/** Edges of what is asked of a text's houses, fronts, panes and wet days: promises 6 to 8, 16 and 34. */
final class EdgeTold {
    private static final int NONE = PaneRounds.NONE;
    private static final int[] WRONG = {-1, Integer.MIN_VALUE, Integer.MAX_VALUE};
    private static final int INDEX = 1;
    private static final int NO_SUCH = 2;
    private final Doc doc;

    EdgeTold(Doc doc) {
        this.doc = doc;
    }

    void run() {
        looks();
        noSuchHouse();
        noSuchWhat();
        fronts();
        noSuchFront();
        panes();
        noSuchPane();
        wetDays();
        counts();
        noSuchCount();
    }

    private static int thrown(PaneRounds x, int house, int what) {
        try {
            x.look(house, what);
            return 0;
        } catch (IndexOutOfBoundsException e) {
            return e.getClass() == IndexOutOfBoundsException.class ? INDEX : 3;
        } catch (NoSuchElementException e) {
            return e.getClass() == NoSuchElementException.class ? NO_SUCH : 4;
        }
    }

    private void looks() {
        doc.says(6, "Of a HOUSE, what 0 FRONT, 1 MAN, 2 street, 3 place, 4 EVERY, 5 days on which they won't (bits), 6 PRICE, 7 DOG (1, 0),"
                + " 8 days on which somebody opens (bits).");
        PaneRounds x = Kit.told("front f 1 1;front g 1 1;man m 0 0 10;man n 0 0 10;house a f m 0 0 1 price 0;"
                + "house b g n 9 99 9 not 0 not 6 price 999 dog home 0 home 5 home 6;");
        int[][] want = {{0, 0, 0, 0, 1, 0, 0, 0, 0}, {1, 1, 9, 99, 9, 65, 999, 1, 97}};
        for (int house = 0; house < 2; house++) {
            for (int what = 0; what < 9; what++) {
                Kit.due("look(" + house + ", " + what + ")", x.look(house, what), want[house][what]);
            }
        }
        x.sell(0, 1);
        Kit.due("the man it has now", x.look(0, 1), 1);
    }

    private void noSuchHouse() {
        doc.says(6, "IndexOutOfBoundsException: no such HOUSE.");
        Kit.due("new: look(0, 0)", thrown(new PaneRounds(), 0, 0), INDEX);
        PaneRounds x = Kit.told("front f 1 1;man m 0 0 10;house a f m 0 0 1;");
        Kit.due("look(0, 0)", thrown(x, 0, 0), 0);
        for (int what : new int[] {0, 8, 9, -1}) {
            Kit.due("look(1, " + what + ")", thrown(x, 1, what), INDEX);
            Kit.due("look(10, " + what + ")", thrown(x, 10, what), INDEX);
            for (int house : WRONG) {
                Kit.due("look(" + house + ", " + what + ")", thrown(x, house, what), INDEX);
            }
        }
        Kit.tell(x, "tank 1 1;");
        Kit.due("gone with its text", thrown(x, 0, 0), INDEX);
    }

    private void noSuchWhat() {
        doc.says(6, "NoSuchElementException: no such what.");
        PaneRounds x = Kit.told("front f 1 1;man m 0 0 10;house a f m 0 0 1;");
        Kit.due("look(0, 8)", thrown(x, 0, 8), 0);
        Kit.due("look(0, 9)", thrown(x, 0, 9), NO_SUCH);
        for (int what : WRONG) {
            Kit.due("look(0, " + what + ")", thrown(x, 0, what), NO_SUCH);
        }
        Kit.due("nothing changed by it", x.days(1), 1);
    }

    private void fronts() {
        doc.says(7, "Of a FRONT, what 0 wide, 1 high, 2 PANES, 3, 4 columns blocked, soft (bits).");
        PaneRounds x = Kit.told("front f 1 1;front g 12 24 pane 11 24 block 0 block 11 soft 11 soft 10;front h 2 3 pane 0 1 pane 1 3 soft 1;");
        int[][] want = {{1, 1, 0, 0, 0}, {12, 24, 1, 2049, 3072}, {2, 3, 2, 0, 2}};
        for (int front = 0; front < 3; front++) {
            for (int what = 0; what < 5; what++) {
                Kit.due("front(" + front + ", " + what + ")", x.front(front, what), want[front][what]);
            }
        }
    }

    private void noSuchFront() {
        doc.says(7, "NONE: no such ones.");
        Kit.due("new: front(0, 0)", new PaneRounds().front(0, 0), NONE);
        PaneRounds x = Kit.told("front f 1 1;front g 1 1;");
        Kit.due("front(1, 4)", x.front(1, 4), 0);
        Kit.due("front(2, 0)", x.front(2, 0), NONE);
        Kit.due("front(5, 0)", x.front(5, 0), NONE);
        Kit.due("front(1, 5)", x.front(1, 5), NONE);
        for (int n : WRONG) {
            Kit.due("front(" + n + ", 0)", x.front(n, 0), NONE);
            Kit.due("front(0, " + n + ")", x.front(0, n), NONE);
        }
    }

    private void panes() {
        doc.says(8, "Of a PANE, what 0: its column, 1: its height.");
        PaneRounds x = Kit.told("front f 12 24 pane 11 1 pane 0 24;front g 1 1 pane 0 1;");
        int[] want = {11, 1, 0, 24};
        for (int i = 0; i < 4; i++) {
            Kit.due("pane(0, " + i / 2 + ", " + i % 2 + ")", x.pane(0, i / 2, i % 2), want[i]);
        }
        Kit.due("pane(1, 0, 1)", x.pane(1, 0, 1), 1);
    }

    private void noSuchPane() {
        doc.says(8, "NONE: no such ones.");
        Kit.due("new: pane(0, 0, 0)", new PaneRounds().pane(0, 0, 0), NONE);
        PaneRounds x = Kit.told("front e 1 1;front f 12 24 pane 11 1 pane 0 24;");
        Kit.due("no panes", x.pane(0, 0, 0), NONE);
        Kit.due("pane(1, 1, 1)", x.pane(1, 1, 1), 24);
        Kit.due("pane(1, 2, 1)", x.pane(1, 2, 1), NONE);
        Kit.due("pane(1, 12, 1)", x.pane(1, 12, 1), NONE);
        Kit.due("pane(2, 0, 0)", x.pane(2, 0, 0), NONE);
        Kit.due("pane(1, 0, 2)", x.pane(1, 0, 2), NONE);
        for (int n : WRONG) {
            Kit.due("pane(" + n + ", 0, 0)", x.pane(n, 0, 0), NONE);
            Kit.due("pane(1, " + n + ", 0)", x.pane(1, n, 0), NONE);
            Kit.due("pane(1, 0, " + n + ")", x.pane(1, 0, n), NONE);
        }
        // a front of the former text had more of them
        Kit.tell(x, "front f 1 1 pane 0 1;");
        Kit.due("fewer than before", x.pane(0, 1, 0), NONE);
    }

    private void wetDays() {
        doc.says(16, "Whether a day is wet (1, 0);");
        doc.says(16, "NONE: no such day.");
        PaneRounds x = Kit.told("wet 0;wet 199;");
        Kit.due("wet(0)", x.wet(0), 1);
        Kit.due("wet(1)", x.wet(1), 0);
        Kit.due("wet(198)", x.wet(198), 0);
        Kit.due("wet(199)", x.wet(199), 1);
        Kit.due("wet(200)", x.wet(200), NONE);
        for (int day : WRONG) {
            Kit.due("wet(" + day + ")", x.wet(day), NONE);
        }
        x.days(200);
        Kit.due("wet(199) when done", x.wet(199), 1);
        Kit.due("wet(200) when done", x.wet(200), NONE);
    }

    private void counts() {
        doc.says(34, "0 LADDERS, 1 POLES, 2 FRONTS, 3 MEN, 4 HOUSES, 5 NOTES, 6 the day that is next, 7 KNOTS, 8 wet days,"
                + " 9 what a tank holds (0), 10 what a pane takes (0), 11 all LETTERS, 12 all COMPLAINTS.");
        StringBuilder most = new StringBuilder();
        for (char c = 'a'; c < 'e'; c++) {
            most.append("ladder ").append(c).append(" 9;");
        }
        for (char c = 'e'; c < 'h'; c++) {
            most.append("pole ").append(c).append(" 9 0;");
        }
        for (char c = 'a'; c < 'f'; c++) {
            most.append("front ").append(c).append(" 1 1;");
        }
        for (char c = 'a'; c < 'd'; c++) {
            most.append("man ").append(c).append(" 0 0 10;");
        }
        for (char c = 'a'; c < 'k'; c++) {
            most.append("house ").append(c).append(" a a 0 0 1 dog;");
        }
        most.append("wet 1 to 199;tank 999 99;complain 1").append("+1".repeat(30)).append(";trust 1+1;");
        PaneRounds x = Kit.told(most.toString());
        int[] told = {4, 3, 5, 3, 10, 0, 0, 64, 199, 999, 99, 0, 0};
        counted("as told", x, told);
        x.days(200);
        for (int i = 0; i < 60; i++) {
            x.pay(0, 0, 0);
        }
        told[5] = 60;
        told[6] = 200;
        told[11] = 10;
        told[12] = 10;
        counted("as done", x, told);
        x.text(0);
        counted("behind an empty text", x, new int[13]);
    }

    private static void counted(String when, PaneRounds x, int[] want) {
        for (int what = 0; what < 13; what++) {
            Kit.due(when + ": count(" + what + ")", x.count(what), want[what]);
        }
    }

    private void noSuchCount() {
        doc.says(34, "NONE for another what.");
        PaneRounds x = Kit.told("tank 1 1;");
        Kit.due("count(12)", x.count(12), 0);
        Kit.due("count(13)", x.count(13), NONE);
        for (int what : WRONG) {
            Kit.due("count(" + what + ")", x.count(what), NONE);
        }
    }
}
