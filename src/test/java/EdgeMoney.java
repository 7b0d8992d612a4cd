/** Edges of notes and of what is owed: promises 21 to 25, and what the terms say of NOTES. */
final class EdgeMoney {
    private static final int NONE = PaneRounds.NONE;
    private static final int NO_SUCH = Integer.MIN_VALUE;
    private static final int[] WRONG = {-1, Integer.MIN_VALUE, Integer.MAX_VALUE};
    private static final String HEAD = "front f 1 1;man m 0 0 100;";
    private final Doc doc;

    EdgeMoney(Doc doc) {
        this.doc = doc;
    }

    void run() {
        notesFromZeroOn();
        pays();
        refusedPays();
        strikes();
        refusedStrikes();
        knownBySome();
        struckStrikes();
        lastOneFirst();
        balances();
        balanceOfNoSuch();
        oldestWipes();
        oldestOfPriceNone();
        oldestByNotes();
        oldestOfNoSuch();
        owedByHouses();
        owedOfNoSuch();
    }

    private static PaneRounds told(String lines, int days) {
        PaneRounds x = Kit.told(HEAD + lines);
        x.days(days);
        return x;
    }

    private void notesFromZeroOn() {
        doc.says(Doc.TERMS, "NOTES, at most 60, numbered from 0 on: a HOUSE paid so much on a day; a STRIKE of a NOTE.");
        PaneRounds x = told("house a f m 0 0 1;", 0);
        for (int i = 0; i < 60; i++) {
            Kit.due("notes ahead of " + i, x.count(5), i);
            Kit.due("note " + i, i % 3 == 2 ? x.strike(i - 1) : x.pay(0, 0, 1), i);
        }
        Kit.due("60 notes", x.count(5), 60);
        Kit.due("no 61st by pay", x.pay(0, 0, 1), NONE);
        Kit.due("no 61st by strike", x.strike(0), NONE);
        Kit.due("60 notes still", x.count(5), 60);
        Kit.due("20 stand", x.balance(0, -1), -20);
        Kit.due("by 60", x.balance(0, 60), -20);
        x.text(0);
        Kit.due("none of a new text", x.count(5), 0);
        PaneRounds y = told("house a f m 0 0 1;", 0);
        y.pay(0, 0, 1);
        for (int i = 1; i < 60; i++) {
            Kit.due("strikes alone " + i, y.strike(i - 1), i);
        }
        Kit.due("strike at 60", y.strike(59), NONE);
        Kit.due("pay at 60", y.pay(0, 0, 0), NONE);
        // 59 strikes, each of the note ahead of it: the last counts, and so every other one
        Kit.due("struck", y.balance(0, -1), 0);
        Kit.due("by 59 not", y.balance(0, 59), -1);
    }

    private void pays() {
        doc.says(21, "A NOTE: its number;");
        PaneRounds x = told("house a f m 0 0 1;house b f m 0 0 1;", 0);
        Kit.due("sum 0", x.pay(0, 0, 0), 0);
        Kit.due("sum 9999", x.pay(1, 199, 9999), 1);
        Kit.due("sum 1", x.pay(1, 5, 1), 2);
        Kit.due("a", x.balance(0, -1), 0);
        Kit.due("b", x.balance(1, -1), -10000);
        Kit.due("nothing is paid at once by it", x.now(1, 6), 0);
        Kit.due("no day is done by it", x.count(6), 0);
        PaneRounds y = told("house a f m 0 0 1;", 200);
        Kit.due("when all days are done", y.pay(0, 0, 290), 0);
        Kit.due("all is paid", y.balance(0, -1), 0);
    }

    private void refusedPays() {
        doc.says(21, "NONE: no such HOUSE, sum (0 .. 9999), day (0 .. 199), or there are 60.");
        Kit.due("new", new PaneRounds().pay(0, 0, 0), NONE);
        PaneRounds x = told("house a f m 0 0 1;", 0);
        Kit.due("house 1", x.pay(1, 0, 0), NONE);
        Kit.due("house 10", x.pay(10, 0, 0), NONE);
        Kit.due("sum 10000", x.pay(0, 0, 10000), NONE);
        Kit.due("day 200", x.pay(0, 200, 1), NONE);
        for (int n : WRONG) {
            Kit.due("house " + n, x.pay(n, 0, 1), NONE);
            Kit.due("day " + n, x.pay(0, n, 1), NONE);
            Kit.due("sum " + n, x.pay(0, 0, n), NONE);
        }
        Kit.due("no notes by these", x.count(5), 0);
        Kit.due("nothing is known by these", x.balance(0, -1), 0);
        Kit.due("the first one is 0", x.pay(0, 199, 9999), 0);
    }

    private void strikes() {
        doc.says(22, "A STRIKE: its NOTE's number;");
        PaneRounds x = told("house a f m 0 0 1;", 0);
        x.pay(0, 0, 5);
        x.pay(0, 0, 7);
        Kit.due("of the first", x.strike(0), 2);
        Kit.due("the second stands", x.balance(0, -1), -7);
        Kit.due("of the second", x.strike(1), 3);
        Kit.due("none stands", x.balance(0, -1), 0);
        Kit.due("of the same again", x.strike(1), 4);
        Kit.due("none stands still", x.balance(0, -1), 0);
        Kit.due("of the latest, a strike", x.strike(4), 5);
        Kit.due("struck by the other", x.balance(0, -1), 0);
        Kit.due("of that other", x.strike(3), 6);
        Kit.due("the second stands again", x.balance(0, -1), -7);
    }

    private void refusedStrikes() {
        doc.says(22, "NONE: no such NOTE, or there are 60.");
        Kit.due("new", new PaneRounds().strike(0), NONE);
        PaneRounds x = told("house a f m 0 0 1;", 0);
        Kit.due("none to strike", x.strike(0), NONE);
        x.pay(0, 0, 5);
        Kit.due("itself", x.strike(1), NONE);
        Kit.due("59", x.strike(59), NONE);
        Kit.due("60", x.strike(60), NONE);
        for (int n : WRONG) {
            Kit.due("note " + n, x.strike(n), NONE);
        }
        Kit.due("no notes by these", x.count(5), 1);
        Kit.due("the last there is", x.strike(0), 1);
        Kit.due("a strike, too", x.strike(1), 2);
    }

    private void knownBySome() {
        doc.says(Doc.TERMS, "KNOWN by n: the first n that aren't STRUCK by one of these");
        PaneRounds x = told("house a f m 0 0 1;house b f m 0 0 1;", 1);
        x.pay(0, 0, 1);
        x.pay(1, 0, 2);
        x.pay(0, 0, 4);
        x.strike(0);
        x.pay(0, 0, 16);
        x.strike(2);
        known(x, 0, 0, 1, 1, 5, 4, 20, 16);
        known(x, 1, 0, 0, 2, 2, 2, 2, 2);
        Kit.due("beyond the last one", x.balance(0, 7), NO_SUCH);
    }

    /** Each house has been wiped once, for 10. */
    private static void known(PaneRounds x, int house, int... want) {
        for (int n = 0; n < want.length; n++) {
            Kit.due("house " + house + " by " + n, x.balance(house, n), 10 - want[n]);
        }
        Kit.due("house " + house + " by all", x.balance(house, -1), 10 - want[want.length - 1]);
    }

    private void struckStrikes() {
        doc.says(Doc.TERMS, "(a STRIKE may be STRUCK: then it doesn't count;");
        PaneRounds x = told("house a f m 0 0 1;", 1);
        x.pay(0, 0, 3);
        for (int i = 0; i < 8; i++) {
            x.strike(i);
        }
        known(x, 0, 0, 3, 0, 3, 0, 3, 0, 3, 0, 3);
    }

    private void lastOneFirst() {
        doc.says(Doc.TERMS, "asked from the last one on):");
        PaneRounds x = told("house a f m 0 0 1;", 1);
        x.pay(0, 0, 3);
        x.strike(0);
        x.strike(0);
        x.strike(1);
        // 3 is struck by the last one, so 1 doesn't count; 2 does, till it is struck, too
        x.strike(2);
        known(x, 0, 0, 3, 0, 0, 0, 3);
        // the strike of a strike is struck: the first strike counts again
        x.strike(3);
        known(x, 0, 0, 3, 0, 0, 0, 3, 0);
    }

    private void balances() {
        doc.says(Doc.TERMS, "BALANCE: PRICES of its WIPES less what was PAID at once and what is KNOWN (below 0, too).");
        doc.says(23, "BALANCE as KNOWN by n NOTES (-1: all);");
        PaneRounds x = told("house a f m 0 0 1 price 999;house b f m 0 0 1 price 20 home 0;house c f m 0 0 1 price 0;", 0);
        Kit.due("nothing yet", x.balance(0, -1), 0);
        x.days(8);
        Kit.due("two wipes", x.balance(0, 0), 1998);
        Kit.due("paid at once", x.balance(1, 0), 0);
        Kit.due("price 0", x.balance(2, 0), 0);
        for (int i = 0; i < 60; i++) {
            x.pay(0, i, 9999);
        }
        for (int n = 0; n <= 60; n++) {
            Kit.due("by " + n, x.balance(0, n), 1998 - n * 9999);
        }
        Kit.due("by all", x.balance(0, -1), 1998 - 60 * 9999);
        Kit.due("another's notes", x.balance(1, -1), 0);
        // the days of notes are no matter
        PaneRounds y = told("house a f m 0 0 1;", 1);
        y.pay(0, 199, 4);
        Kit.due("of a day to come", y.balance(0, -1), 6);
        y.days(199);
        Kit.due("29 wipes", y.balance(0, -1), 286);
    }

    private void balanceOfNoSuch() {
        doc.says(23, "Integer.MIN_VALUE: no such ones.");
        Kit.due("new", new PaneRounds().balance(0, 0), NO_SUCH);
        PaneRounds x = told("house a f m 0 0 1;", 1);
        Kit.due("by 0 of none", x.balance(0, 0), 10);
        Kit.due("by 1 of none", x.balance(0, 1), NO_SUCH);
        x.pay(0, 0, 1);
        Kit.due("by 1 of 1", x.balance(0, 1), 9);
        Kit.due("by 2 of 1", x.balance(0, 2), NO_SUCH);
        Kit.due("by 60 of 1", x.balance(0, 60), NO_SUCH);
        Kit.due("by -2", x.balance(0, -2), NO_SUCH);
        Kit.due("by MIN", x.balance(0, Integer.MIN_VALUE), NO_SUCH);
        Kit.due("by MAX", x.balance(0, Integer.MAX_VALUE), NO_SUCH);
        Kit.due("house 1", x.balance(1, 0), NO_SUCH);
        Kit.due("house 10", x.balance(10, -1), NO_SUCH);
        for (int house : WRONG) {
            Kit.due("house " + house, x.balance(house, -1), NO_SUCH);
        }
    }

    private void oldestWipes() {
        doc.says(Doc.TERMS, "OLDEST: the day of its first WIPE that what was PAID (at once and KNOWN, all together) doesn't reach");
        PaneRounds x = told("house a f m 0 0 1 from 2;", 0);
        Kit.due("never wiped", x.oldest(0, -1), NONE);
        x.days(17);
        // wiped on 2, 9, 16
        Kit.due("none paid", x.oldest(0, -1), 2);
        int[] sums = {9, 1, 9, 1, 9, 1, 1};
        int[] want = {2, 9, 9, 16, 16, NONE, NONE};
        for (int i = 0; i < sums.length; i++) {
            x.pay(0, 0, sums[i]);
            Kit.due("oldest by " + (i + 1), x.oldest(0, -1), want[i]);
        }
        x.days(7);
        Kit.due("one ahead isn't enough for the next", x.oldest(0, -1), 23);
        x.pay(0, 0, 9);
        Kit.due("now it is", x.oldest(0, -1), NONE);
        PaneRounds y = told("house a f m 0 0 1 price 10 home 1;wet 7;", 9);
        Kit.due("all at once", y.now(0, 6), 20);
        Kit.due("all are reached", y.oldest(0, -1), NONE);
        y.days(7);
        Kit.due("at once again", y.oldest(0, -1), NONE);
        // 7 by a note, 13 at once: all together they reach two
        PaneRounds z = Kit.told(HEAD + "house a f m 0 0 1 price 10 home 1;wet 7;");
        z.pay(0, 0, 7);
        z.days(9);
        Kit.due("13 at once", z.now(0, 6), 13);
        Kit.due("13 and 7", z.oldest(0, 1), NONE);
        Kit.due("13 alone", z.oldest(0, 0), 8);
        // all is paid at once in each week, but for the 7
        z.days(191);
        Kit.due("the last one", z.oldest(0, 0), z.now(0, 5));
    }

    private void oldestOfPriceNone() {
        doc.says(Doc.TERMS, "(NONE; none of PRICE 0).");
        PaneRounds x = told("house a f m 0 0 1 price 0;house b f m 0 0 1 price 1;", 200);
        Kit.due("price 0", x.oldest(0, -1), NONE);
        Kit.due("price 1", x.oldest(1, -1), 0);
        x.pay(1, 0, 28);
        Kit.due("the last one", x.oldest(1, -1), 196);
        x.pay(1, 0, 1);
        Kit.due("all", x.oldest(1, -1), NONE);
        x.pay(1, 0, 9999);
        Kit.due("more than all", x.oldest(1, -1), NONE);
    }

    private void oldestByNotes() {
        doc.says(24, "OLDEST as KNOWN by n NOTES (-1: all); NONE: none;");
        PaneRounds x = told("house a f m 0 0 1;house b f m 0 0 1;", 8);
        x.pay(0, 0, 10);
        x.pay(1, 0, 20);
        x.strike(0);
        x.pay(0, 0, 20);
        int[] a = {0, 7, 7, 0, NONE};
        int[] b = {0, 0, NONE, NONE, NONE};
        for (int n = 0; n < a.length; n++) {
            Kit.due("a by " + n, x.oldest(0, n), a[n]);
            Kit.due("b by " + n, x.oldest(1, n), b[n]);
        }
        Kit.due("a by all", x.oldest(0, -1), NONE);
        x.strike(3);
        Kit.due("a by all again", x.oldest(0, -1), 0);
    }

    private void oldestOfNoSuch() {
        doc.says(24, "-2: no such ones.");
        Kit.due("new", new PaneRounds().oldest(0, 0), -2);
        PaneRounds x = told("house a f m 0 0 1;", 1);
        Kit.due("by 0 of none", x.oldest(0, 0), 0);
        Kit.due("by 1 of none", x.oldest(0, 1), -2);
        x.pay(0, 0, 1);
        Kit.due("by 1 of 1", x.oldest(0, 1), 0);
        Kit.due("by 2 of 1", x.oldest(0, 2), -2);
        Kit.due("by -2", x.oldest(0, -2), -2);
        Kit.due("by MIN", x.oldest(0, Integer.MIN_VALUE), -2);
        Kit.due("by MAX", x.oldest(0, Integer.MAX_VALUE), -2);
        Kit.due("house 1", x.oldest(1, 0), -2);
        for (int house : WRONG) {
            Kit.due("house " + house, x.oldest(house, -1), -2);
        }
    }

    private void owedByHouses() {
        doc.says(25, "What all HOUSES of a MAN OWE (those with a BALANCE above 0, by all NOTES);");
        PaneRounds x = Kit.told("front f 1 1;man m 0 0 10;man n 0 0 10;man o 0 0 10;house a f m 0 0 1 price 5;house b f n 0 0 1 price 6;"
                + "house c f m 0 0 1 price 7;house d f m 0 0 1 price 8;");
        Kit.due("nothing yet", x.owed(0), 0);
        x.days(1);
        Kit.due("m", x.owed(0), 20);
        Kit.due("n", x.owed(1), 6);
        Kit.due("o has none", x.owed(2), 0);
        x.pay(0, 0, 6);
        Kit.due("a is ahead: it owes nothing, and helps nobody", x.owed(0), 15);
        x.pay(2, 0, 7);
        Kit.due("c owes just nothing", x.owed(0), 8);
        x.strike(0);
        Kit.due("by all notes", x.owed(0), 13);
        // its debt goes with the house
        x.sell(3, 2);
        Kit.due("m without d", x.owed(0), 5);
        Kit.due("o with d", x.owed(2), 8);
        x.sell(0, 1);
        Kit.due("n with a", x.owed(1), 11);
        StringBuilder ten = new StringBuilder();
        for (int i = 0; i < 10; i++) {
            ten.append("house ").append((char) ('a' + i)).append(" f m 0 0 1 price 999;");
        }
        Kit.due("ten houses", told(ten.toString(), 8).owed(0), 19980);
    }

    private void owedOfNoSuch() {
        doc.says(25, "NONE: no such MAN.");
        Kit.due("new", new PaneRounds().owed(0), NONE);
        PaneRounds x = told("house a f m 0 0 1;", 1);
        Kit.due("man 0", x.owed(0), 10);
        Kit.due("man 1", x.owed(1), NONE);
        Kit.due("man 3", x.owed(3), NONE);
        for (int man : WRONG) {
            Kit.due("man " + man, x.owed(man), NONE);
        }
    }
}
