/** Edges of the image: promises 32 and 33, and what the terms say of it. */
final class EdgeImages {
    private static final int NONE = PaneRounds.NONE;
    private static final String TEXT = "front f 1 1;man m 0 0 100;man n 0 0 100;house a f m 0 0 1 home 0;house b f m 0 0 1 not 0;house c f m 0 0 1 dog;"
            + "wet 2;complain 1;trust owes<40;";
    private final Doc doc;

    EdgeImages(Doc doc) {
        this.doc = doc;
    }

    void run() {
        allBehindTheText();
        keeps();
        keptInPlaceOfOneAhead();
        backs();
        backAgainAndOtherwise();
        noImage();
        notOfTheImage();
    }

    /** What is behind the text, as far as it can be asked in some hundred calls. */
    private static long[] state(PaneRounds x) {
        long[] all = new long[3 * 10 + 2 * 3 + 18 * 5 + 13];
        int n = 0;
        for (int house = 0; house < 3; house++) {
            for (int what = 0; what < 7; what++) {
                all[n++] = x.now(house, what);
            }
            all[n++] = x.look(house, 1);
            all[n++] = x.balance(house, -1);
            all[n++] = x.oldest(house, -1);
        }
        for (int man = 0; man < 2; man++) {
            all[n++] = x.owed(man);
            all[n++] = x.tour(man);
            all[n++] = x.worth(man);
        }
        for (int i = 0; i < 18; i++) {
            int day = i < 10 ? i : 8 * i - 66;
            all[n++] = x.wiped(day);
            for (int man = 0; man < 2; man++) {
                all[n++] = x.way(man, day, 0);
                all[n++] = x.way(man, day, 4);
            }
        }
        for (int what = 0; what < 13; what++) {
            all[n++] = x.count(what);
        }
        return all;
    }

    private static void same(String when, PaneRounds x, long[] want) {
        long[] got = state(x);
        for (int i = 0; i < want.length; i++) {
            Kit.due(when + ": answer " + i, got[i], want[i]);
        }
    }

    private void allBehindTheText() {
        doc.says(Doc.TERMS, "IMAGE: all that is behind the TEXT (days, DUE, PAID, LETTERS, COMPLAINTS, NOTES): kept and brought back.");
        PaneRounds x = Kit.told(TEXT);
        x.days(9);
        x.pay(1, 3, 7);
        x.strike(0);
        x.pay(2, 3, 4);
        x.sell(1, 1);
        long[] then = state(x);
        Kit.due("kept", x.keep(), 9);
        same("keeping changes nothing", x, then);
        x.days(30);
        x.pay(0, 0, 9999);
        x.strike(1);
        x.sell(0, 1);
        x.sell(1, 0);
        Kit.due("days went on", x.count(6), 39);
        Kit.due("days", x.back(), 9);
        same("brought back", x, then);
        Kit.due("due", x.now(0, 0), 14);
        Kit.due("paid", x.now(0, 6), 20);
        Kit.due("letters", x.now(2, 2), 8);
        Kit.due("complaints", x.now(2, 3), 1);
        Kit.due("one lasts", x.now(2, 4), 1);
        Kit.due("notes", x.count(5), 3);
        Kit.due("days behind it aren't done", x.wiped(9), NONE);
        Kit.due("nor have they a way", x.way(0, 9, 0), NONE);
        Kit.due("nor notes behind it", x.balance(0, 4), Integer.MIN_VALUE);
        // as things were told
        PaneRounds y = Kit.told(TEXT);
        long[] first = state(y);
        y.keep();
        y.days(200);
        Kit.due("from the end to the start", y.back(), 0);
        same("the start", y, first);
        Kit.due("and on to the end", y.days(200), 200);
    }

    private void keeps() {
        doc.says(32, "An IMAGE is kept");
        doc.says(32, "on which day it is.");
        PaneRounds x = new PaneRounds();
        Kit.due("new: keep()", x.keep(), 0);
        Kit.due("new: back()", x.back(), 0);
        PaneRounds y = Kit.told(TEXT);
        Kit.due("day 0", y.keep(), 0);
        y.days(1);
        Kit.due("day 1", y.keep(), 1);
        Kit.due("day 1 again", y.keep(), 1);
        y.days(199);
        Kit.due("day 200", y.keep(), 200);
        Kit.due("no day is done by it", y.count(6), 200);
        Kit.due("back at the end", y.back(), 200);
        Kit.due("no more days", y.days(1), NONE);
    }

    private void keptInPlaceOfOneAhead() {
        doc.says(32, "(in place of one ahead):");
        PaneRounds x = Kit.told(TEXT);
        x.days(3);
        x.keep();
        x.days(4);
        x.pay(0, 0, 1);
        x.keep();
        long[] then = state(x);
        x.days(5);
        Kit.due("the later one", x.back(), 7);
        same("the later one", x, then);
        Kit.due("the earlier one is gone", x.back(), 7);
        // an earlier day in place of a later one
        PaneRounds y = Kit.told(TEXT);
        y.days(2);
        y.keep();
        y.days(2);
        y.back();
        y.pay(0, 0, 1);
        y.keep();
        y.days(5);
        Kit.due("the earlier day", y.back(), 2);
        Kit.due("with its note", y.count(5), 1);
    }

    private void backs() {
        doc.says(33, "All is as in the IMAGE (MEN of HOUSES, too): the day that is next;");
        PaneRounds x = Kit.told(TEXT);
        x.sell(2, 1);
        x.keep();
        x.sell(2, 0);
        x.sell(0, 1);
        Kit.due("back()", x.back(), 0);
        Kit.due("a", x.look(0, 1), 0);
        Kit.due("c", x.look(2, 1), 1);
        Kit.due("worth of n", x.worth(1), 720);
        // it stays and may be brought back again
        x.days(10);
        Kit.due("again", x.back(), 0);
        Kit.due("at once again", x.back(), 0);
        Kit.due("days are done as ever", x.days(3), 3);
        Kit.due("a third time", x.back(), 0);
    }

    private void backAgainAndOtherwise() {
        PaneRounds x = Kit.told("front f 1 1;man m 0 0 100;house a f m 0 0 1;trust owes<10;");
        x.days(3);
        x.keep();
        x.days(20);
        Kit.due("not trusted on 7", x.wiped(7), 0);
        x.back();
        x.pay(0, 0, 10);
        x.days(20);
        Kit.due("trusted on 7", x.wiped(7), 1);
        Kit.due("a way on 7", x.way(0, 7, 0), 1);
        x.back();
        Kit.due("the note is gone", x.count(5), 0);
        x.days(20);
        Kit.due("not trusted on 7 again", x.wiped(7), 0);
        Kit.due("no way on 7 again", x.way(0, 7, 0), 0);
        x.back();
        x.pay(0, 0, 9);
        x.strike(0);
        x.strike(1);
        x.days(20);
        Kit.due("1 is owed: trusted on 7", x.wiped(7), 1);
        Kit.due("not trusted on 14", x.wiped(14), 0);
        Kit.due("no way on 14", x.way(0, 14, 0), 0);
        // other notes have the numbers of those that are gone
        x.back();
        Kit.due("numbered from 0 on", x.pay(0, 0, 1), 0);
        Kit.due("and on", x.pay(0, 0, 2), 1);
        Kit.due("no strike is left", x.balance(0, -1), 7);
        for (int i = 2; i < 60; i++) {
            x.pay(0, 0, 0);
        }
        Kit.due("full", x.pay(0, 0, 0), NONE);
        x.back();
        Kit.due("room again", x.pay(0, 0, 0), 0);
        // days done the same way again are the same
        PaneRounds y = Kit.told(TEXT);
        y.days(5);
        y.keep();
        y.days(60);
        long[] then = state(y);
        y.back();
        y.days(60);
        same("the same again", y, then);
    }

    private void noImage() {
        doc.says(33, "NONE: there is none.");
        PaneRounds x = new PaneRounds();
        Kit.due("new", x.back(), NONE);
        x.days(7);
        Kit.due("behind some days", x.back(), NONE);
        Kit.due("nothing changed", x.count(6), 7);
        x.keep();
        Kit.tell(x, TEXT);
        Kit.due("none of a new text", x.back(), NONE);
        x.days(3);
        Kit.due("nor behind its days", x.back(), NONE);
        Kit.due("these stand", x.count(6), 3);
        Kit.due("kept", x.keep(), 3);
        x.text(0);
        Kit.due("none of an empty text", x.back(), NONE);
        // a refused text leaves it
        PaneRounds y = Kit.told(TEXT);
        y.days(2);
        y.keep();
        y.days(2);
        Kit.tell(y, "tank 0 0;");
        y.text(900);
        Kit.due("behind a fault and -2", y.back(), 2);
    }

    private void notOfTheImage() {
        // the tape, the text and the latest fault aren't behind the text
        PaneRounds x = Kit.told("tank 5 6;wet 3;" + TEXT);
        x.keep();
        Kit.tell(x, "tank 0 0;");
        Kit.lay(x, "tank 7 8;");
        x.days(4);
        x.back();
        Kit.due("the fault stays", x.fault(0), 2);
        Kit.due("its place stays", x.fault(1), 5);
        Kit.due("the text stays", x.count(9), 5);
        Kit.due("the tape stays", x.text(9), 1);
        Kit.due("the next text", x.count(9), 7);
    }
}
