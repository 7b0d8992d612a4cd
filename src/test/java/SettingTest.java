/** Promises 7 to 13 and 30: front, pane, top, covers, missing, fewest, minutes, instead. */
public final class SettingTest {
    private static final int NONE = PaneRounds.NONE;

    public static void main(String[] args) {
        toldFronts();
        tops();
        covering();
        missingPanes();
        fewestRows();
        twelve();
        insteads();
        wrongOnes();
        Kit.end();
    }

    private static void toldFronts() {
        PaneRounds x = Kit.told("front e 1 1;front f 12 24 pane 11 24 pane 0 1 block 0 block 11 soft 3 soft 11;");
        int[] want = {12, 24, 2, 1 | 1 << 11, 1 << 3 | 1 << 11};
        for (int what = 0; what < 5; what++) {
            Kit.due("front(1, " + what + ")", x.front(1, what), want[what]);
        }
        Kit.due("front(0, 2)", x.front(0, 2), 0);
        Kit.due("front(1, 5)", x.front(1, 5), NONE);
        Kit.due("front(1, -1)", x.front(1, -1), NONE);
        Kit.due("front(2, 0)", x.front(2, 0), NONE);
        Kit.due("front(-1, 0)", x.front(-1, 0), NONE);
        Kit.due("pane(1, 0, 0)", x.pane(1, 0, 0), 11);
        Kit.due("pane(1, 0, 1)", x.pane(1, 0, 1), 24);
        Kit.due("pane(1, 1, 0)", x.pane(1, 1, 0), 0);
        Kit.due("pane(1, 1, 1)", x.pane(1, 1, 1), 1);
        Kit.due("pane(1, 1, 2)", x.pane(1, 1, 2), NONE);
        Kit.due("pane(1, 1, -1)", x.pane(1, 1, -1), NONE);
        Kit.due("pane(1, 2, 0)", x.pane(1, 2, 0), NONE);
        Kit.due("pane(1, -1, 0)", x.pane(1, -1, 0), NONE);
        Kit.due("pane(0, 0, 0)", x.pane(0, 0, 0), NONE);
        Kit.due("pane(2, 0, 0)", x.pane(2, 0, 0), NONE);
    }

    private static void tops() {
        PaneRounds x = Kit.told("pole q 4 9;ladder a 4;ladder b 30;pole r 40 9;pole s 5 5;front f 4 9 block 1 soft 2;");
        // of ladder a the squares left are 15, 12, 7; d must be 1 for a top of 3
        Kit.due("a at 1", x.top(0, 0, 0, 1, false), 3);
        Kit.due("a at 2", x.top(0, 0, 0, 2, false), NONE);
        Kit.due("a at 4", x.top(0, 0, 0, 4, false), NONE);
        // of ladder b: 29 at 5 is above 25, 29 at 6 fits, 28 at 9 is above 27
        Kit.due("b at 5", x.top(0, 1, 0, 5, false), NONE);
        Kit.due("b at 6", x.top(0, 1, 0, 6, false), 29);
        Kit.due("b at 9", x.top(0, 1, 0, 9, false), 28);
        Kit.due("b at 10", x.top(0, 1, 0, 10, false), NONE);
        // poles: 3 less 3; 39 less 36; 4 less 2
        Kit.due("q at 1", x.top(0, 2, 0, 1, false), 0);
        Kit.due("q at 3: below 0 is 0", x.top(0, 2, 0, 3, false), 0);
        Kit.due("q at 4", x.top(0, 2, 0, 4, false), NONE);
        Kit.due("r at 1", x.top(0, 3, 0, 1, false), 3);
        Kit.due("s at 3", x.top(0, 4, 0, 3, false), 2);
        Kit.due("s at 5", x.top(0, 4, 0, 5, false), NONE);
        Kit.due("s on soft ground", x.top(0, 4, 2, 3, false), 2);
        Kit.due("s on a block", x.top(0, 4, 1, 3, true), NONE);
        Kit.due("a on soft ground", x.top(0, 0, 2, 1, false), NONE);
        Kit.due("a held on soft ground", x.top(0, 0, 2, 1, true), 3);
        Kit.due("a held on a block", x.top(0, 0, 1, 1, true), NONE);
        Kit.due("covers nothing", x.covers(0, 2, 0, 1, false), 0);
        Kit.due("covers: may not stand", x.covers(0, 0, 2, 1, false), NONE);
    }

    private static void covering() {
        // the ladder's top is 10: panes of 5 to 11; the pole reaches 1 to 9
        PaneRounds x = Kit.told("ladder a 11;pole p 10 0;front f 5 24 pane 2 4 pane 2 5 pane 2 11 pane 2 12 pane 1 5 pane 3 5"
                + " pane 0 5 pane 4 5 pane 2 9 pane 2 10 pane 2 1;");
        int seen = 1 << 1 | 1 << 2 | 1 << 4 | 1 << 5 | 1 << 8 | 1 << 9;
        Kit.due("ladder", x.covers(0, 0, 2, 2, false), seen);
        Kit.due("ladder at the left", x.covers(0, 0, 0, 2, false), 1 << 4 | 1 << 6);
        Kit.due("pole top", x.top(0, 1, 2, 1, false), 9);
        Kit.due("pole", x.covers(0, 1, 2, 1, false), 1 | 1 << 1 | 1 << 4 | 1 << 5 | 1 << 8 | 1 << 10);
        Kit.due("pole at the right", x.covers(0, 1, 4, 1, false), 1 << 5 | 1 << 7);
    }

    private static void missingPanes() {
        PaneRounds x = Kit.told("ladder a 11;pole p 5 0;front f 5 24 pane 0 11 pane 1 12 pane 4 4 pane 4 5 block 3 soft 4;");
        Kit.due("by none", x.missing(0, 0, false), 15);
        Kit.due("by the ladder", x.missing(0, 1, false), 14);
        Kit.due("by the ladder held", x.missing(0, 1, true), 6);
        Kit.due("by the pole", x.missing(0, 2, false), 11);
        Kit.due("by both", x.missing(0, 3, false), 10);
        Kit.due("by both held", x.missing(0, 3, true), 2);
    }

    private static void fewestRows() {
        PaneRounds x = Kit.told("pole a 10 0;pole b 10 0;front f 7 3 pane 0 1 pane 3 1 pane 6 1;front g 1 1;");
        int[] row = {3, 256, 2 * 16 + 256, 5 * 16 + 256, NONE};
        for (int what = 0; what < row.length; what++) {
            Kit.due("row of a, b " + what, x.fewest(0, 3, false, what), row[what]);
            Kit.due("row of b " + what, x.fewest(0, 2, true, what), what == 0 || what == 4 ? row[what] : row[what] + 1);
        }
        Kit.due("minutes", x.minutes(0, 3, false), 3 * 3 + 3 * 2);
        Kit.due("none to cover", x.fewest(1, 3, false, 0), 0);
        Kit.due("none to cover, row", x.fewest(1, 3, false, 1), NONE);
        Kit.due("none to cover, minutes", x.minutes(1, 3, false), 0);
        Kit.due("no tools", x.fewest(0, 0, false, 0), 0);
        Kit.due("no tools, minutes", x.minutes(0, 0, false), 0);
        // the ladder alone takes two, and the pole covers all: one setting, at its first place
        PaneRounds y = Kit.told("ladder l 11;pole p 20 0;front f 3 19 pane 1 1 pane 0 7 pane 2 19;");
        Kit.due("one", y.fewest(0, 3, false, 0), 1);
        Kit.due("the pole", y.fewest(0, 3, false, 1), 1 + 16 + 256);
        Kit.due("its minutes", y.minutes(0, 3, false), 9);
        Kit.due("ladder alone", y.fewest(0, 1, false, 0), 1);
        Kit.due("ladder alone covers one", y.minutes(0, 1, false), 8);
        // nearer sets are bigger: a first choice of the most panes would take three
        PaneRounds z = Kit.told("pole p 10 0;front f 6 9 pane 0 1 pane 1 1 pane 2 1 pane 3 1 pane 4 1 pane 5 1 pane 2 2 pane 3 2;");
        Kit.due("two", z.fewest(0, 1, false, 0), 2);
        Kit.due("two, 1", z.fewest(0, 1, false, 1), 16 + 256);
        Kit.due("two, 2", z.fewest(0, 1, false, 2), 4 * 16 + 256);
        Kit.due("two, minutes", z.minutes(0, 1, false), 22);
    }

    /** Twelve panes, each too far from the others in column or height: as many settings as can be. */
    private static void twelve() {
        StringBuilder b = new StringBuilder("ladder a 6;ladder b 14;ladder c 23;front f 12 24");
        for (int column = 1; column < 12; column += 3) {
            b.append(" pane ").append(column).append(" 1 pane ").append(column).append(" 12 pane ").append(column).append(" 23");
        }
        PaneRounds x = Kit.told(b + ";");
        Kit.due("none is missing", x.missing(0, 7, false), 0);
        Kit.due("twelve", x.fewest(0, 7, false, 0), 12);
        Kit.due("no more", x.fewest(0, 7, false, 13), NONE);
        Kit.due("minutes", x.minutes(0, 7, false), 12 * 6 + 12 * 2);
        for (int i = 0; i < 12; i++) {
            int setting = x.fewest(0, 7, false, 1 + i);
            Kit.due("tool of " + i, setting & 15, i / 4);
            Kit.due("column of " + i, setting >> 4 & 15, 3 * (i % 4));
        }
        Kit.due("a first", x.fewest(0, 7, false, 1) >> 8, 1);
        Kit.due("four by one", x.fewest(0, 2, false, 0), 4);
        Kit.due("eight are missing", x.missing(0, 2, false), 0b101101101101);
    }

    private static void insteads() {
        PaneRounds x = Kit.told("ladder a 11;pole p 5 0;front f 5 24 pane 0 11 pane 1 12 pane 4 4 pane 4 5 block 3 soft 4;"
                + "front g 1 1 pane 0 1;man m 0 0 10;house a f m 0 0 1;house b g m 0 0 1;house c f m 0 0 1;");
        Kit.due("instead(0)", x.instead(0), 2 * 200 + 50);
        Kit.due("instead(1)", x.instead(1), 2 * (8 + 150) + 50);
        Kit.due("instead(2)", x.instead(2), 2 * (5 + 150) + 5);
        Kit.due("instead(3)", x.instead(3), 2 * (8 + 5 + 100) + 5);
        Kit.due("instead(4)", x.instead(4), NONE);
        Kit.due("instead(-1)", x.instead(-1), NONE);
        Kit.due("no houses", Kit.told("ladder a 9;front f 1 1 pane 0 1;").instead(1), 0);
    }

    private static void wrongOnes() {
        PaneRounds x = Kit.told("ladder a 11;pole p 5 0;front f 5 24 pane 0 11;");
        int[] wrong = {-1, 99, Integer.MIN_VALUE, Integer.MAX_VALUE};
        for (int n : wrong) {
            Kit.due("top front " + n, x.top(n, 0, 0, 2, false), NONE);
            Kit.due("top tool " + n, x.top(0, n, 0, 2, false), NONE);
            Kit.due("top column " + n, x.top(0, 0, n, 2, false), NONE);
            Kit.due("top distance " + n, x.top(0, 0, 0, n, false), NONE);
            Kit.due("covers front " + n, x.covers(n, 0, 0, 2, false), NONE);
            Kit.due("covers tool " + n, x.covers(0, n, 0, 2, false), NONE);
            Kit.due("covers column " + n, x.covers(0, 0, n, 2, false), NONE);
            Kit.due("covers distance " + n, x.covers(0, 0, 0, n, false), NONE);
            Kit.due("missing front " + n, x.missing(n, 1, false), NONE);
            Kit.due("missing tools " + n, x.missing(0, n, false), NONE);
            Kit.due("fewest front " + n, x.fewest(n, 1, false, 0), NONE);
            Kit.due("fewest tools " + n, x.fewest(0, n, false, 0), NONE);
            Kit.due("fewest what " + n, x.fewest(0, 1, false, n), NONE);
            Kit.due("minutes front " + n, x.minutes(n, 1, false), NONE);
            Kit.due("minutes tools " + n, x.minutes(0, n, false), NONE);
        }
        Kit.due("tool 2", x.top(0, 2, 0, 2, false), NONE);
        Kit.due("column 5", x.top(0, 0, 5, 2, false), NONE);
        Kit.due("tools 4", x.missing(0, 4, false), NONE);
    }
}
