/** Edges of settings: promises 9 to 13 and 30, and what the terms say of them. */
final class EdgeSettings {
    private static final int NONE = PaneRounds.NONE;
    private static final int[] WRONG = {-1, Integer.MIN_VALUE, Integer.MAX_VALUE};
    private final Doc doc;

    EdgeSettings(Doc doc) {
        this.doc = doc;
    }

    void run() {
        roots();
        settingsOfAFront();
        ladderMayStand();
        softGround();
        panesOfALadder();
        panesOfAPole();
        tops();
        coversWrongOnes();
        missing();
        fewestOfAll();
        firstRow();
        fewestPieceByPiece();
        minutes();
        instead();
        insteadWrongOnes();
    }

    private static int root(int n) {
        int r = 0;
        while ((r + 1) * (r + 1) <= n) {
            r++;
        }
        return r;
    }

    private void roots() {
        doc.says(Doc.TERMS, "ROOT of a whole number: the greatest one whose square isn't above it.");
        for (int length = 4; length <= 40; length++) {
            PaneRounds x = Kit.told("pole p " + length + " 0;front f 1 1;");
            for (int d = 1; d <= 9; d++) {
                int want = d < length ? root(length * length - d * d) : NONE;
                Kit.due("pole " + length + " at " + d, x.top(0, 0, 0, d, false), want);
            }
        }
        // whole roots: 3 4 5, 5 12 13, 8 15 17, 6 8 10, 9 12 15
        Kit.due("5 at 3", Kit.told("pole p 5 0;front f 1 1;").top(0, 0, 0, 3, false), 4);
        Kit.due("13 at 5", Kit.told("pole p 13 0;front f 1 1;").top(0, 0, 0, 5, false), 12);
        Kit.due("17 at 8", Kit.told("pole p 17 0;front f 1 1;").top(0, 0, 0, 8, false), 15);
        Kit.due("15 at 9", Kit.told("pole p 15 0;front f 1 1;").top(0, 0, 0, 9, false), 12);
    }

    private void settingsOfAFront() {
        doc.says(Doc.TERMS, "A SETTING for a FRONT: a tool (LADDERS first, then POLES, numbered on), a column c, a distance d 1 .. 9.");
        PaneRounds x = Kit.told("pole p 20 0;ladder a 4;pole q 30 0;ladder b 6;front f 3 5;front g 12 5;");
        Kit.due("tool 0 is a", x.top(0, 0, 0, 1, false), 3);
        Kit.due("tool 1 is b", x.top(0, 1, 0, 1, false), 5);
        Kit.due("tool 2 is p", x.top(0, 2, 0, 1, false), 19);
        Kit.due("tool 3 is q", x.top(0, 3, 0, 1, false), 29);
        Kit.due("no tool 4", x.top(0, 4, 0, 1, false), NONE);
        Kit.due("column 2", x.top(0, 2, 2, 1, false), 19);
        Kit.due("no column 3", x.top(0, 2, 3, 1, false), NONE);
        Kit.due("column 11", x.top(1, 2, 11, 1, false), 19);
        Kit.due("no column 12", x.top(1, 2, 12, 1, false), NONE);
        Kit.due("no distance 0", x.top(0, 2, 0, 0, false), NONE);
        Kit.due("distance 9", x.top(0, 2, 0, 9, false), 17);
        Kit.due("no distance 10", x.top(0, 2, 0, 10, false), NONE);
    }

    private void ladderMayStand() {
        doc.says(Doc.TERMS, "It may STAND, if the column has no BLOCK, and for a LADDER: d is below its LENGTH, its top h,"
                + " the ROOT of (LENGTH LENGTH less d d), is 3 d at least and 5 d at most,");
        for (int length = 4; length <= 30; length++) {
            PaneRounds x = Kit.told("ladder a " + length + ";pole p 9 0;front f 2 1 block 1;");
            for (int d = 1; d <= 9; d++) {
                int h = d < length ? root(length * length - d * d) : NONE;
                int want = h >= 3 * d && h <= 5 * d ? h : NONE;
                Kit.due("ladder " + length + " at " + d, x.top(0, 0, 0, d, false), want);
                Kit.due("ladder " + length + " on a block at " + d, x.top(0, 0, 1, d, true), NONE);
                Kit.due("pole on a block at " + d, x.top(0, 1, 1, d, true), NONE);
            }
        }
        Kit.due("just 3 d", Kit.told("ladder a 7;front f 1 1;").top(0, 0, 0, 2, false), 6);
        Kit.due("3 d less 1", Kit.told("ladder a 9;front f 1 1;").top(0, 0, 0, 3, false), NONE);
        Kit.due("just 5 d", Kit.told("ladder a 11;front f 1 1;").top(0, 0, 0, 2, false), 10);
        Kit.due("5 d and 1", Kit.told("ladder a 12;front f 1 1;").top(0, 0, 0, 2, false), NONE);
    }

    private void softGround() {
        doc.says(Doc.TERMS, "and the ground isn't SOFT but if it is HELD (by two men).");
        PaneRounds x = Kit.told("ladder a 11;pole p 11 0;front f 4 9 soft 1 soft 2 block 2 pane 1 9;");
        Kit.due("firm", x.top(0, 0, 0, 2, false), 10);
        Kit.due("firm, held", x.top(0, 0, 0, 2, true), 10);
        Kit.due("soft", x.top(0, 0, 1, 2, false), NONE);
        Kit.due("soft, held", x.top(0, 0, 1, 2, true), 10);
        Kit.due("soft and blocked, held", x.top(0, 0, 2, 2, true), NONE);
        Kit.due("a pole on soft ground", x.top(0, 1, 1, 2, false), 10);
        Kit.due("a pole on soft ground, held", x.top(0, 1, 1, 2, true), 10);
        Kit.due("held doesn't help a slope", x.top(0, 0, 1, 4, true), NONE);
        Kit.due("covers on soft ground", x.covers(0, 0, 1, 2, false), NONE);
        Kit.due("covers on soft ground, held", x.covers(0, 0, 1, 2, true), 1);
    }

    private void panesOfALadder() {
        doc.says(Doc.TERMS, "It COVERS PANES of columns c less 1 .. c and 1, of a height from h less 5 to h and 1;");
        doc.says(10, "PANES (bits) that a SETTING COVERS;");
        // the top is 10
        PaneRounds x = Kit.told("ladder a 11;front f 9 24 pane 4 4 pane 4 5 pane 4 11 pane 4 12 pane 2 8 pane 3 8 pane 5 8 pane 6 8"
                + " pane 3 4 pane 5 12 pane 0 5 pane 8 11;");
        Kit.due("at 4", x.covers(0, 0, 4, 2, false), 1 << 1 | 1 << 2 | 1 << 5 | 1 << 6);
        Kit.due("at the left end", x.covers(0, 0, 0, 2, false), 1 << 10);
        Kit.due("at 1", x.covers(0, 0, 1, 2, false), 1 << 10 | 1 << 4);
        Kit.due("at the right end", x.covers(0, 0, 8, 2, false), 1 << 11);
        Kit.due("no panes", Kit.told("ladder a 11;front f 1 1;").covers(0, 0, 0, 2, false), 0);
        // a top of 3: from -2 on
        PaneRounds y = Kit.told("ladder a 4;front f 1 9 pane 0 1 pane 0 4 pane 0 5;");
        Kit.due("a low top", y.covers(0, 0, 0, 1, false), 3);
        // a top of 28, above the highest pane: from 23 on
        PaneRounds z = Kit.told("ladder a 30;front f 1 24 pane 0 24 pane 0 23 pane 0 22;");
        Kit.due("a high top", z.covers(0, 0, 0, 9, false), 3);
    }

    private void panesOfAPole() {
        doc.says(Doc.TERMS, "a POLE (d below its LENGTH): 1 .. the ROOT of (LENGTH LENGTH less d d) less LENGTH times BEND by 10, cut (0 at least).");
        for (int bend = 0; bend <= 9; bend++) {
            PaneRounds x = Kit.told("pole p 15 " + bend + ";pole q 4 " + bend + ";pole r 40 " + bend + ";front f 1 24 pane 0 1 pane 0 24;");
            int[] lengths = {15, 4, 40};
            for (int tool = 0; tool < 3; tool++) {
                int length = lengths[tool];
                for (int d = 1; d <= 9; d++) {
                    int want = d < length ? Math.max(0, root(length * length - d * d) - length * bend / 10) : NONE;
                    Kit.due("pole " + length + " bend " + bend + " at " + d, x.top(0, tool, 0, d, false), want);
                    int panes = want == NONE ? NONE : (want >= 1 ? 1 : 0) | (want >= 24 ? 2 : 0);
                    Kit.due("panes of pole " + length + " bend " + bend + " at " + d, x.covers(0, tool, 0, d, false), panes);
                }
            }
        }
        // 14 less 1 (1.5 is cut): 13
        PaneRounds y = Kit.told("pole p 15 1;front f 5 24 pane 2 13 pane 2 14 pane 2 1 pane 1 13 pane 3 13 pane 0 5 pane 4 5;");
        Kit.due("from 1 to its highest", y.covers(0, 0, 2, 1, false), 0b11101);
        Kit.due("below 0 is 0", Kit.told("pole p 4 9;front f 1 1;").top(0, 0, 0, 3, false), 0);
    }

    private void tops() {
        doc.says(9, "What a SETTING reaches: a LADDER's top, a POLE's highest;");
        doc.says(9, "NONE: it may not STAND, there are no such ones.");
        PaneRounds x = Kit.told("ladder a 11;pole p 10 9;front f 2 9 block 1;front g 1 9;");
        Kit.due("ladder", x.top(0, 0, 0, 3, false), 10);
        Kit.due("pole that reaches nothing", x.top(0, 1, 0, 1, false), 0);
        Kit.due("may not stand: block", x.top(0, 0, 1, 3, false), NONE);
        Kit.due("may not stand: slope", x.top(0, 0, 0, 1, false), NONE);
        Kit.due("no front 2", x.top(2, 0, 0, 3, false), NONE);
        Kit.due("no tool 2", x.top(0, 2, 0, 3, false), NONE);
        Kit.due("no column 1 of g", x.top(1, 0, 1, 3, false), NONE);
        for (int n : WRONG) {
            Kit.due("front " + n, x.top(n, 0, 0, 3, false), NONE);
            Kit.due("tool " + n, x.top(0, n, 0, 3, true), NONE);
            Kit.due("column " + n, x.top(0, 0, n, 3, false), NONE);
            Kit.due("distance " + n, x.top(0, 0, 0, n, true), NONE);
            Kit.due("pole, distance " + n, x.top(0, 1, 0, n, true), NONE);
        }
        Kit.due("new", new PaneRounds().top(0, 0, 0, 1, false), NONE);
    }

    private void coversWrongOnes() {
        doc.says(10, "NONE: it may not STAND, there are no such ones.");
        PaneRounds x = Kit.told("ladder a 11;pole p 10 9;front f 2 9 block 1 pane 0 9;front g 1 9;");
        Kit.due("ladder", x.covers(0, 0, 0, 3, false), 1);
        Kit.due("stands, but covers none", x.covers(0, 1, 0, 1, false), 0);
        Kit.due("may not stand: block", x.covers(0, 0, 1, 3, true), NONE);
        Kit.due("may not stand: slope", x.covers(0, 0, 0, 4, true), NONE);
        Kit.due("no front 2", x.covers(2, 0, 0, 3, false), NONE);
        Kit.due("no tool 2", x.covers(0, 2, 0, 3, false), NONE);
        Kit.due("no column 1 of g", x.covers(1, 0, 1, 3, false), NONE);
        Kit.due("distance 0", x.covers(0, 1, 0, 0, false), NONE);
        Kit.due("distance 10", x.covers(0, 1, 0, 10, false), NONE);
        for (int n : WRONG) {
            Kit.due("front " + n, x.covers(n, 0, 0, 3, false), NONE);
            Kit.due("tool " + n, x.covers(0, n, 0, 3, true), NONE);
            Kit.due("column " + n, x.covers(0, 0, n, 3, false), NONE);
            Kit.due("distance " + n, x.covers(0, 0, 0, n, true), NONE);
        }
        Kit.due("new", new PaneRounds().covers(0, 0, 0, 1, false), NONE);
    }

    private void missing() {
        doc.says(11, "PANES (bits) that no SETTING by tools (bits) covers;");
        doc.says(11, "NONE: no such ones.");
        PaneRounds x = Kit.told("ladder a 11;pole p 5 0;front f 6 24 pane 0 5 pane 5 11 pane 2 4 pane 3 12 block 4 soft 5;front g 1 1;"
                + "front h 3 9 pane 1 1 block 0 block 1 block 2;");
        Kit.due("no tools", x.missing(0, 0, false), 15);
        Kit.due("ladder", x.missing(0, 1, false), 14);
        Kit.due("ladder, held", x.missing(0, 1, true), 12);
        Kit.due("pole", x.missing(0, 2, true), 11);
        Kit.due("both", x.missing(0, 3, false), 10);
        Kit.due("both, held", x.missing(0, 3, true), 8);
        Kit.due("no panes", x.missing(1, 0, false), 0);
        Kit.due("blocked everywhere", x.missing(2, 3, true), 1);
        Kit.due("tools 4", x.missing(0, 4, false), NONE);
        Kit.due("tools 5", x.missing(0, 5, false), NONE);
        Kit.due("front 3", x.missing(3, 0, false), NONE);
        for (int n : WRONG) {
            Kit.due("front " + n, x.missing(n, 0, false), NONE);
            Kit.due("tools " + n, x.missing(0, n, false), NONE);
        }
        sevenTools();
        Kit.due("new", new PaneRounds().missing(0, 0, false), NONE);
    }

    private void sevenTools() {
        PaneRounds x = Kit.told("ladder a 4;ladder b 4;ladder c 4;ladder d 4;pole e 4 9;pole f 4 9;pole g 9 0;front f 1 9 pane 0 8;");
        Kit.due("all seven", x.missing(0, 127, false), 0);
        Kit.due("all but the last", x.missing(0, 63, false), 1);
        Kit.due("the last alone", x.missing(0, 64, false), 0);
        Kit.due("an eighth", x.missing(0, 128, false), NONE);
        Kit.due("its fewest", x.fewest(0, 127, false, 1), 6 + 256);
        Kit.due("its top", x.top(0, 6, 0, 1, false), 8);
        Kit.due("no tool 7: top", x.top(0, 7, 0, 1, false), NONE);
        Kit.due("no tool 7: covers", x.covers(0, 7, 0, 1, false), NONE);
    }

    private void fewestOfAll() {
        doc.says(Doc.TERMS, "FEWEST settings (HELD or not; by tools told as bits) that cover all PANES that any covers:");
        doc.says(12, "FEWEST, what 0: how many,");
        PaneRounds x = Kit.told("ladder a 11;pole p 5 0;front f 7 24 pane 0 5 pane 6 11 pane 3 4 pane 3 24 soft 5 soft 6;front g 1 1;");
        Kit.due("no tools", x.fewest(0, 0, false, 0), 0);
        Kit.due("one pane by the ladder", x.fewest(0, 1, false, 0), 1);
        Kit.due("two, held", x.fewest(0, 1, true, 0), 2);
        Kit.due("by the pole", x.fewest(0, 2, false, 0), 1);
        Kit.due("by both", x.fewest(0, 3, false, 0), 2);
        Kit.due("by both, held", x.fewest(0, 3, true, 0), 3);
        Kit.due("no panes", x.fewest(1, 3, true, 0), 0);
        // twelve panes, no two of which one setting covers
        StringBuilder b = new StringBuilder("ladder a 6;ladder b 14;ladder c 23;front f 12 24");
        for (int column = 1; column < 12; column += 3) {
            b.append(" pane ").append(column).append(" 1 pane ").append(column).append(" 12 pane ").append(column).append(" 23");
        }
        Kit.due("twelve", Kit.told(b + ";").fewest(0, 7, false, 0), 12);
        // fewer tools than were asked before, and another front
        PaneRounds z = Kit.told("pole p 9 0;ladder a 4;ladder b 11;front f 4 9 pane 0 2 pane 3 2 pane 0 7 pane 3 7;front g 9 9 pane 0 1 pane 4 1 pane 8 1;");
        Kit.due("all tools", z.fewest(0, 7, false, 0), 2);
        Kit.due("ladders", z.fewest(0, 3, false, 0), 4);
        Kit.due("the second ladder", z.fewest(0, 2, false, 0), 2);
        Kit.due("a wider front", z.fewest(1, 4, false, 0), 3);
        Kit.due("ladders again", z.fewest(0, 3, false, 0), 4);
        // settings that stand alone are counted, whichever wider ones come behind them
        PaneRounds w = Kit.told("ladder l 11;pole p 8 0;front f 6 24 pane 0 6 pane 5 11 pane 0 1;");
        Kit.due("ladder and pole", w.fewest(0, 3, false, 0), 2);
        Kit.due("the ladder", w.fewest(0, 3, false, 1), 4 * 16 + 2 * 256);
        Kit.due("the pole", w.fewest(0, 3, false, 2), 1 + 256);
        // what is wide on one front is nothing to the next one
        PaneRounds v = Kit.told("pole p 8 0;front f 12 1 pane 9 1 pane 10 1 pane 0 1 pane 5 1;front g 9 1 pane 0 1 pane 8 1;");
        Kit.due("three", v.fewest(0, 1, false, 0), 3);
        Kit.due("two apart", v.fewest(1, 1, false, 0), 2);
        // the setting with most panes (in the middle) belongs to no fewest row
        PaneRounds y = Kit.told("pole p 10 0;front f 6 9 pane 0 1 pane 1 1 pane 2 1 pane 3 1 pane 4 1 pane 5 1 pane 2 2 pane 3 2;");
        Kit.due("two, not three", y.fewest(0, 1, false, 0), 2);
    }

    private void firstRow() {
        doc.says(Doc.TERMS, "of several the first row of SETTINGS by tool, column, distance (a row that rises; one by one).");
        // by tool: the second pole is nearer and wider, the first one is taken
        PaneRounds x = Kit.told("pole p 9 0;pole q 40 0;front f 3 5 pane 1 5;");
        Kit.due("the first tool", x.fewest(0, 3, false, 1), 256);
        // by tool, though its column is greater and its distance, too
        PaneRounds y = Kit.told("ladder a 30;pole q 40 0;front f 5 24 pane 4 24 pane 3 24 block 3;");
        Kit.due("tool ahead of column", y.fewest(0, 3, false, 1), 4 * 16 + 6 * 256);
        // by column ahead of distance: from column 0 the pane is reached, at distance 1 it is too
        PaneRounds z = Kit.told("ladder a 11;front f 3 24 pane 1 10;");
        Kit.due("the first column, its first distance", z.fewest(0, 1, false, 1), 2 * 256);
        // by distance: the pole reaches 8 at all of 1 .. 6, 7 at 7
        PaneRounds w = Kit.told("pole p 10 0;front f 1 24 pane 0 8;");
        Kit.due("the first distance", w.fewest(0, 1, false, 1), 256);
        // one by one: the first setting is as early as can be, though it covers one pane only
        PaneRounds v = Kit.told("pole p 10 0;front f 5 1 pane 0 1 pane 2 1 pane 4 1;");
        Kit.due("two settings", v.fewest(0, 1, false, 0), 2);
        Kit.due("the first covers one", v.fewest(0, 1, false, 1), 256);
        Kit.due("the second covers two", v.fewest(0, 1, false, 2), 3 * 16 + 256);
        // a row rises by tool first: the ladder's stands ahead of the pole's though its column is greater
        PaneRounds u = Kit.told("ladder a 11;pole p 5 0;front f 9 24 pane 0 1 pane 8 11;");
        Kit.due("the ladder", u.fewest(0, 3, false, 1), 7 * 16 + 2 * 256);
        Kit.due("the pole", u.fewest(0, 3, false, 2), 1 + 256);
        // equal columns: one ladder from two distances (tops 28 at 9 and 29 at 6 .. 7)
        PaneRounds t = Kit.told("ladder a 12;ladder b 25;front f 1 24 pane 0 12 pane 0 24;");
        Kit.due("a at its first", t.fewest(0, 3, false, 1), 3 * 256);
        Kit.due("b at its first", t.fewest(0, 3, false, 2), 1 + 5 * 256);
    }

    private void fewestPieceByPiece() {
        doc.says(12, "1 and on: SETTING what less 1: the tool, 16 times the column and 256 times the distance.");
        doc.says(12, "NONE: no such ones.");
        PaneRounds x = Kit.told("pole a 10 0;pole b 10 0;front f 12 3 pane 0 1 pane 3 1 pane 11 1;front g 1 1;");
        int[] row = {3, 256, 2 * 16 + 256, 10 * 16 + 256, NONE, NONE};
        for (int what = 0; what < row.length; what++) {
            Kit.due("row of a, b: " + what, x.fewest(0, 3, false, what), row[what]);
        }
        Kit.due("row of b", x.fewest(0, 2, true, 3), 1 + 10 * 16 + 256);
        Kit.due("row of a again", x.fewest(0, 1, false, 3), 10 * 16 + 256);
        Kit.due("no setting 0", x.fewest(1, 3, false, 1), NONE);
        Kit.due("no tools, no setting", x.fewest(0, 0, false, 1), NONE);
        Kit.due("tools 4", x.fewest(0, 4, false, 0), NONE);
        Kit.due("front 2", x.fewest(2, 3, false, 0), NONE);
        for (int n : WRONG) {
            Kit.due("front " + n, x.fewest(n, 1, false, 0), NONE);
            Kit.due("tools " + n, x.fewest(0, n, false, 0), NONE);
            Kit.due("what " + n, x.fewest(0, 1, false, n), NONE);
        }
        // the greatest tool and column; and the greatest distance that is ever a first one
        PaneRounds y = Kit.told("ladder a 4;ladder b 4;ladder c 4;ladder d 30;pole e 4 9;pole f 4 9;pole g 30 0;"
                + "front f 12 24 pane 11 23 block 10 soft 11;");
        Kit.due("tool 6, column 11", y.fewest(0, 127, false, 1), 6 + 11 * 16 + 256);
        Kit.due("distance 8", y.fewest(0, 8, true, 1), 3 + 11 * 16 + 8 * 256);
        Kit.due("new", new PaneRounds().fewest(0, 0, false, 0), NONE);
    }

    private void minutes() {
        doc.says(Doc.TERMS, "MINUTES of a FRONT: by these: 6 for each with a LADDER, 3 with a POLE, and 2 for each PANE that is covered.");
        doc.says(13, "MINUTES; NONE: no such ones.");
        PaneRounds x = Kit.told("ladder a 11;pole p 5 0;front f 7 24 pane 0 5 pane 6 11 pane 3 4 pane 3 24 soft 5 soft 6;front g 1 1;");
        Kit.due("no tools", x.minutes(0, 0, false), 0);
        Kit.due("one with the ladder", x.minutes(0, 1, false), 6 + 2);
        Kit.due("two with the ladder", x.minutes(0, 1, true), 12 + 4);
        Kit.due("one with the pole", x.minutes(0, 2, false), 3 + 2);
        Kit.due("one each", x.minutes(0, 3, false), 9 + 4);
        Kit.due("two and one", x.minutes(0, 3, true), 15 + 6);
        Kit.due("no panes", x.minutes(1, 3, true), 0);
        // a pane that two settings cover counts once
        Kit.due("once each", Kit.told("pole p 10 0;front f 4 1 pane 0 1 pane 1 1 pane 2 1 pane 3 1;").minutes(0, 1, false), 6 + 8);
        Kit.due("tools 4", x.minutes(0, 4, false), NONE);
        Kit.due("front 2", x.minutes(2, 0, false), NONE);
        for (int n : WRONG) {
            Kit.due("front " + n, x.minutes(n, 1, false), NONE);
            Kit.due("tools " + n, x.minutes(0, n, true), NONE);
        }
        Kit.due("new", new PaneRounds().minutes(0, 0, false), NONE);
    }

    private void instead() {
        doc.says(Doc.TERMS, "INSTEAD: one POLE for two LADDERS: MINUTES of all HOUSES' FRONTS by told tools (a PANE that they don't cover counts 50).");
        doc.says(30, "INSTEAD by tools (bits): all MINUTES;");
        PaneRounds x = Kit.told("ladder a 11;pole p 5 0;ladder b 7;front e 1 24 pane 0 24;front f 3 24 pane 0 11 pane 1 12 pane 2 4 soft 1;"
                + "front g 1 1 pane 0 1;man m 0 0 10;house a f m 0 0 1;house b g m 0 0 1;house c f m 0 0 9;");
        Kit.due("no tools", x.instead(0), 2 * 150 + 50);
        Kit.due("ladder a", x.instead(1), 2 * (8 + 100) + 50);
        Kit.due("ladder b", x.instead(2), 2 * (8 + 100) + 8);
        Kit.due("two ladders", x.instead(3), 2 * (16 + 50) + 8);
        Kit.due("the pole", x.instead(4), 2 * (5 + 100) + 5);
        Kit.due("all", x.instead(7), 2 * (6 + 6 + 2 + 2 + 50) + 8);
        Kit.due("no houses", Kit.told("ladder a 9;front f 1 1 pane 0 1;").instead(1), 0);
        // not held
        Kit.due("soft ground", Kit.told("ladder a 11;front f 1 24 pane 0 11 soft 0;man m 0 0 10;house a f m 0 0 1;").instead(1), 50);
    }

    private void insteadWrongOnes() {
        doc.says(30, "NONE: bits of no tools.");
        Kit.due("new: no bits", new PaneRounds().instead(0), 0);
        Kit.due("new: a bit", new PaneRounds().instead(1), NONE);
        PaneRounds x = Kit.told("ladder a 9;pole p 9 0;front f 1 1 pane 0 1;man m 0 0 10;house a f m 0 0 1;");
        Kit.due("both", x.instead(3), 5);
        Kit.due("a third", x.instead(4), NONE);
        Kit.due("a third, too", x.instead(5), NONE);
        for (int n : WRONG) {
            Kit.due("tools " + n, x.instead(n), NONE);
        }
    }
}
