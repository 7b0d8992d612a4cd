/** Edges of days gone on: promises 14, 15 and 17, and what the terms say of OPEN work. */
final class EdgeDays {
    private static final int NONE = PaneRounds.NONE;
    private static final int NO_SUCH = Integer.MIN_VALUE;
    private static final int[] WRONG = {-1, Integer.MIN_VALUE, Integer.MAX_VALUE};
    /** Front f has no panes and takes no minutes. */
    private static final String HEAD = "front f 1 1;man m 0 0 100;";
    private final Doc doc;

    EdgeDays(Doc doc) {
        this.doc = doc;
    }

    void run() {
        daysOneByOne();
        weekdays();
        wetDays();
        eachManHisOwn();
        dueHouses();
        ownWeekdays();
        dogs();
        longestWaitFirst();
        walks();
        withinMinutes();
        minutesOfFronts();
        leftOut();
        owesAndIsDueAgain();
        paidAtOnce();
        letters();
        askedAsHeBegins();
        soManyDays();
        noSuchDays();
        nowOfAHouse();
        noSuchNow();
        wipedOnADay();
        noSuchWiped();
    }

    private static void way(PaneRounds x, int man, int day, int... houses) {
        Kit.due("houses of man " + man + " on day " + day, x.way(man, day, 0), houses.length);
        for (int i = 0; i < houses.length; i++) {
            Kit.due("house " + i + " of man " + man + " on day " + day, x.way(man, day, 3 + i), houses[i]);
        }
        Kit.due("none behind", x.way(man, day, 3 + houses.length), NONE);
    }

    private void daysOneByOne() {
        doc.says(Doc.TERMS, "DAYS 0 .. 199, one by one:");
        String text = HEAD + "house a f m 0 1 1 not 3;house b f m 0 2 2 from 5 dog home 1;wet 7;complain waits>1;trust times<9 or day>100;";
        PaneRounds all = Kit.told(text);
        PaneRounds each = Kit.told(text);
        all.days(200);
        for (int day = 0; day < 200; day++) {
            Kit.due("day " + day + " alone", each.days(1), day + 1);
        }
        for (int day = 0; day < 200; day++) {
            Kit.due("wiped on " + day, each.wiped(day), all.wiped(day));
        }
        for (int house = 0; house < 2; house++) {
            for (int what = 0; what < 7; what++) {
                Kit.due("now(" + house + ", " + what + ")", each.now(house, what), all.now(house, what));
            }
        }
        PaneRounds x = Kit.told(HEAD + "house a f m 0 0 1;");
        x.days(200);
        for (int day = 0; day < 200; day++) {
            Kit.due("each week: wiped on " + day, x.wiped(day), day % 7 == 0 ? 1 : 0);
        }
        Kit.due("times", x.now(0, 1), 29);
        Kit.due("due behind the last day", x.now(0, 0), 203);
    }

    private void weekdays() {
        doc.says(Doc.TERMS, "weekday: the day modulo 7.");
        for (int weekday = 0; weekday < 7; weekday++) {
            StringBuilder but = new StringBuilder();
            for (int i = 0; i < 7; i++) {
                but.append(i == weekday ? "" : " not " + i);
            }
            PaneRounds x = Kit.told(HEAD + "house a f m 0 0 1" + but + ";house b f m 0 0 1 from 193" + but + ";");
            x.days(200);
            Kit.due("first on weekday " + weekday, x.wiped(weekday), 1);
            Kit.due("wiped last on weekday " + weekday, x.now(0, 5) % 7, weekday);
            Kit.due("letters ahead of it", x.now(0, 2), weekday);
            // 193 is 27 weeks and 4 days
            Kit.due("from 193 on, weekday " + weekday, x.now(1, 5), weekday >= 4 ? 189 + weekday : 196 + weekday > 199 ? NONE : 196 + weekday);
        }
    }

    private void wetDays() {
        doc.says(Doc.TERMS, "OPEN work: on a day that isn't wet");
        PaneRounds x = Kit.told(HEAD + "house a f m 0 0 1;house b f m 0 0 1 dog;wet 0 to 2;wet 10;wet 199;house c f m 0 0 1 from 199;");
        x.days(3);
        for (int day = 0; day < 3; day++) {
            Kit.due("wet " + day, x.wiped(day), 0);
            way(x, 0, day);
        }
        Kit.due("no letters on wet days", x.count(11), 0);
        x.days(1);
        Kit.due("dry", x.wiped(3), 1);
        Kit.due("a letter", x.count(11), 1);
        x.days(8);
        Kit.due("put off by rain", x.wiped(10), 0);
        Kit.due("and done behind it", x.wiped(11), 1);
        x.days(188);
        Kit.due("wet on the last day", x.now(2, 1), 0);
        Kit.due("all wet", told("wet 0 to 199;house a f m 0 0 1;", 200).now(0, 1), 0);
    }

    private static PaneRounds told(String lines, int days) {
        PaneRounds x = Kit.told(HEAD + lines);
        x.days(days);
        return x;
    }

    private void eachManHisOwn() {
        doc.says(Doc.TERMS, "each MAN (in order) begins at home with his HOUSES");
        PaneRounds x = Kit.told("front f 1 1;man a 9 99 10;man b 0 0 10;man c 5 50 10;house d f c 5 50 1;house e f b 0 0 1;house g f a 9 99 1;"
                + "house h f a 0 0 1;");
        x.days(1);
        way(x, 0, 0, 2);
        way(x, 1, 0, 1);
        way(x, 2, 0, 0);
        Kit.due("from his own home", x.way(0, 0, 1) + x.way(1, 0, 1) + x.way(2, 0, 1), 0);
        Kit.due("another's home doesn't help", x.now(3, 1), 0);
        x.sell(3, 1);
        x.days(1);
        way(x, 1, 1, 3);
        // each has all his minutes again on each day
        PaneRounds y = Kit.told("front f 1 1;man a 0 0 10;man b 0 0 10;house c f a 0 5 1;house d f b 0 5 1;house e f a 0 5 1 from 1;");
        y.days(2);
        Kit.due("both on day 0", y.wiped(0), 3);
        Kit.due("again on day 1", y.wiped(1), 4);
        Kit.due("no houses", Kit.told("man a 0 0 10;").days(1), 1);
    }

    private void dueHouses() {
        doc.says(Doc.TERMS, "that are DUE that day or were ahead of it,");
        PaneRounds x = told("house a f m 0 0 1 from 3;house b f m 0 0 1 from 4;house c f m 0 0 9 from 199;wet 4 to 5;", 200);
        Kit.due("ahead of when it is due", x.wiped(2), 0);
        Kit.due("due that day", x.wiped(3), 1);
        Kit.due("was due ahead of it", x.wiped(6), 2);
        // a, too: 28 weeks behind day 3
        Kit.due("due on the last day", x.wiped(199), 5);
    }

    private void ownWeekdays() {
        doc.says(Doc.TERMS, "but those that won't have it on that weekday,");
        PaneRounds x = told("house a f m 0 0 1 not 0 not 1;house b f m 0 0 1 not 1;house c f m 0 0 1 not 0 not 1 not 2 not 3 not 4 not 5 not 6;", 200);
        Kit.due("day 0", x.wiped(0), 2);
        Kit.due("day 1", x.wiped(1), 0);
        Kit.due("day 2", x.wiped(2), 1);
        Kit.due("never", x.now(2, 1), 0);
        Kit.due("not, though somebody opens", told("house a f m 0 0 1 not 0 home 0;", 1).wiped(0), 0);
    }

    private void dogs() {
        doc.says(Doc.TERMS, "ones with a DOG unless somebody opens (home),");
        PaneRounds x = told("house a f m 0 0 1 dog;house b f m 0 0 1 dog home 1 home 6;house c f m 0 0 1 home 1;", 200);
        Kit.due("day 0", x.wiped(0), 4);
        Kit.due("day 1", x.wiped(1), 2);
        Kit.due("day 8", x.wiped(8), 2);
        Kit.due("a dog and nobody", x.now(0, 1), 0);
        Kit.due("a dog, not and home on one weekday", told("house a f m 0 0 1 dog not 0 home 0;", 1).wiped(0), 0);
    }

    private void longestWaitFirst() {
        doc.says(Doc.TERMS, "by how long they WAIT (the day less when DUE), the longest first, of several the least number.");
        PaneRounds x = told("house a f m 0 1 1 from 5;house b f m 0 2 1 from 3;house c f m 0 3 1 from 3;house d f m 0 4 1;house e f m 0 5 1 from 6;wet 0 to 5;", 7);
        way(x, 0, 6, 3, 1, 2, 0, 4);
        PaneRounds y = told("house a f m 0 9 1;house b f m 0 1 1;house c f m 0 5 1;", 1);
        way(y, 0, 0, 0, 1, 2);
        // when it is DUE counts, not when it was wiped last
        PaneRounds z = told("house a f m 0 1 1;house b f m 0 2 2;house c f m 0 3 1 from 8;wet 14;", 16);
        way(z, 0, 7, 0);
        way(z, 0, 15, 0, 1, 2);
        StringBuilder ten = new StringBuilder();
        for (int i = 0; i < 10; i++) {
            ten.append("house ").append((char) ('a' + i)).append(" f m 0 0 1 from ").append(9 - i).append(';');
        }
        way(told(ten + "wet 0 to 8;", 10), 0, 9, 9, 8, 7, 6, 5, 4, 3, 2, 1, 0);
    }

    private void walks() {
        doc.says(Doc.TERMS, "He goes to each in turn: WALK: how far places are apart, and 10 for each street;");
        PaneRounds x = Kit.told("front f 1 1;man m 5 50 600;house a f m 3 57 1;house b f m 4 40 1;house c f m 0 99 1;house d f m 9 0 1;");
        x.days(1);
        way(x, 0, 0, 0, 1, 2, 3);
        Kit.due("all walk", x.way(0, 0, 1), 20 + 7 + 10 + 17 + 40 + 59 + 90 + 99 + 40 + 50);
        Kit.due("nowhere", told("", 1).way(0, 0, 1), 0);
        Kit.due("at home", told("house a f m 0 0 1;", 1).way(0, 0, 1), 0);
    }

    private void withinMinutes() {
        doc.says(Doc.TERMS, "he does it, if WALK, its FRONT's MINUTES (not HELD, all tools) and the WALK home are within what is left of his MINUTES;");
        String front = "pole p 10 0;front f 1 1 pane 0 1;";
        // 3 there, 5 minutes, 3 home
        for (int minutes = 10; minutes <= 12; minutes++) {
            PaneRounds x = Kit.told(front + "man m 0 0 " + minutes + ";house a f m 0 3 1;");
            x.days(1);
            Kit.due("11 of " + minutes, x.wiped(0), minutes >= 11 ? 1 : 0);
        }
        // 5 there, 5 on, 10 home: the walk home from the first isn't used up
        for (int minutes = 19; minutes <= 21; minutes++) {
            PaneRounds x = Kit.told("front f 1 1;man m 0 0 " + minutes + ";house a f m 0 5 1;house b f m 0 10 1;");
            x.days(1);
            Kit.due("20 of " + minutes, x.wiped(0), minutes >= 20 ? 3 : 1);
        }
        // two fronts of 5 minutes, one after the other at the door
        Kit.due("just both", doneAtHome(front, 10), 3);
        Kit.due("all three", doneAtHome(front, 15), 7);
        Kit.due("not three", doneAtHome(front, 14), 3);
        PaneRounds far = Kit.told("front f 1 1;man m 0 0 600;house a f m 9 99 1;");
        far.days(1);
        Kit.due("there and back", far.way(0, 0, 2), 378);
    }

    private static int doneAtHome(String front, int minutes) {
        PaneRounds x = Kit.told(front + "man m 0 0 " + minutes + ";house a f m 0 0 1;house b f m 0 0 1;house c f m 0 0 1;");
        x.days(1);
        return x.wiped(0);
    }

    private void minutesOfFronts() {
        // by all tools: the pole covers both panes that the two ladders would
        String front = "front f 3 24 pane 0 2 pane 2 10;man m 0 0 100;house a f m 0 0 1;";
        Kit.due("a pole", minutesOf("pole p 20 0;" + front), 3 + 4);
        Kit.due("ladders", minutesOf("ladder l 11;ladder k 4;" + front), 12 + 4);
        Kit.due("ladders and a pole", minutesOf("ladder l 11;ladder k 4;pole p 20 0;" + front), 3 + 4);
        // not held: the ladder can't stand on soft ground
        Kit.due("soft ground", minutesOf("ladder l 11;front f 1 24 pane 0 10 soft 0;man m 0 0 10;house a f m 0 0 1;"), 0);
        Kit.due("no tools", minutesOf(front), 0);
        // 5 there and 5 home: held, it would be 8 more
        PaneRounds x = Kit.told("ladder l 11;front f 1 24 pane 0 10 soft 0;man m 0 0 10;house a f m 0 5 1;");
        x.minutes(0, 1, true);
        x.days(1);
        Kit.due("not held", x.wiped(0), 1);
    }

    private static int minutesOf(String text) {
        PaneRounds x = Kit.told(text);
        x.days(1);
        Kit.due("done", x.wiped(0), 1);
        return x.way(0, 0, 2);
    }

    private void leftOut() {
        doc.says(Doc.TERMS, "if not, he leaves it out and stays where he is.");
        PaneRounds x = Kit.told("front f 1 1;man m 0 0 20;house a f m 0 5 1;house b f m 0 90 1;house c f m 0 8 1;house d f m 0 9 1;");
        x.days(1);
        // 5 and 3 are gone at c; 1 on and 9 home are within 12
        way(x, 0, 0, 0, 2, 3);
        Kit.due("walk", x.way(0, 0, 1), 18);
        Kit.due("left out for want of time: no letter", x.now(1, 2), 0);
        Kit.due("stays due", x.now(1, 0), 0);
        Kit.due("owes nothing", x.balance(1, -1), 0);
        // the next day it has waited longest
        PaneRounds y = Kit.told("front f 1 1;man m 0 50 10;house a f m 0 45 1;house b f m 0 55 1;house c f m 0 45 1 from 1;");
        y.days(2);
        way(y, 0, 0, 0);
        way(y, 0, 1, 1);
    }

    private void owesAndIsDueAgain() {
        doc.says(Doc.TERMS, "One that is WIPED OWES its PRICE more, and is DUE EVERY weeks later.");
        for (int every = 1; every <= 9; every++) {
            PaneRounds x = told("house a f m 0 0 " + every + " price 999;wet 1 to 199;wet 0;", 200);
            Kit.due("never wiped", x.now(0, 0), 0);
            Kit.due("owes nothing", x.balance(0, -1), 0);
            PaneRounds y = told("house a f m 0 0 " + every + " price 999;", 1);
            Kit.due("due again", y.now(0, 0), 7 * every);
            Kit.due("owes once", y.balance(0, -1), 999);
            y.days(7 * every);
            Kit.due("twice wiped", y.now(0, 1), 2);
            Kit.due("due again, too", y.now(0, 0), 14 * every);
            Kit.due("owes twice", y.balance(0, -1), 1998);
            // by the day on which it is wiped, not by the one on which it was due
            Kit.due("wiped late", told("house a f m 0 0 " + every + ";wet 0 to 4;", 6).now(0, 0), 5 + 7 * every);
        }
        Kit.due("wiped on the last day", told("house a f m 0 0 9 from 199;", 200).now(0, 0), 262);
        Kit.due("price 0", told("house a f m 0 0 1 price 0;", 200).balance(0, -1), 0);
        Kit.due("price 10 untold", told("house a f m 0 0 1;", 200).balance(0, -1), 290);
    }

    private void paidAtOnce() {
        doc.says(Doc.TERMS, "If somebody opens that weekday all that it OWES is PAID at once (also that PRICE).");
        PaneRounds x = told("house a f m 0 0 1 price 7 home 0;house b f m 0 0 1 price 7 home 1;", 1);
        Kit.due("paid", x.now(0, 6), 7);
        Kit.due("owes nothing", x.balance(0, -1), 0);
        Kit.due("nobody opens", x.now(1, 6), 0);
        Kit.due("owes", x.balance(1, -1), 7);
        x.days(1);
        Kit.due("nobody wipes when somebody opens", x.now(1, 6), 0);
        // rain puts b off to its weekday: it pays two wipes at once
        PaneRounds y = told("house b f m 0 0 1 price 7 home 1;wet 7;", 9);
        Kit.due("wiped on 8", y.wiped(8), 1);
        Kit.due("both", y.now(0, 6), 14);
        Kit.due("nothing is left", y.balance(0, -1), 0);
        // what is known by notes isn't paid again
        PaneRounds z = Kit.told(HEAD + "house b f m 0 0 1 price 7 home 1;wet 7;");
        z.days(5);
        z.pay(0, 4, 3);
        z.days(4);
        Kit.due("less what is known", z.now(0, 6), 11);
        // who has paid more than the price ahead pays nothing, and nothing is given back
        PaneRounds w = Kit.told(HEAD + "house b f m 0 0 1 price 7 home 0;");
        w.pay(0, 0, 8);
        w.days(1);
        Kit.due("paid ahead", w.now(0, 6), 0);
        Kit.due("one is left", w.balance(0, -1), -1);
        w.days(7);
        Kit.due("the rest", w.now(0, 6), 6);
        PaneRounds v = Kit.told(HEAD + "house b f m 0 0 1 price 7 home 0;");
        v.pay(0, 0, 7);
        v.days(1);
        Kit.due("paid just ahead", v.now(0, 6), 0);
        // a note that is struck isn't known
        PaneRounds u = Kit.told(HEAD + "house b f m 0 0 1 price 7 home 0;");
        u.pay(0, 0, 7);
        u.strike(0);
        u.days(1);
        Kit.due("struck", u.now(0, 6), 7);
    }

    private void letters() {
        doc.says(Doc.TERMS, "A HOUSE of his that is DUE by then and left out for want of TRUST, for its DOG or by its own weekday gets a LETTER (one a day).");
        PaneRounds x = told("house a f m 0 0 1 dog;house b f m 0 0 1 not 0 not 2;house c f m 0 0 1 from 2 dog not 2 price 3;house d f m 0 0 1 price 3;"
                + "house e f m 0 0 1;trust price>3;", 1);
        letters(x, 1, 1, 0, 1, 0);
        x.days(1);
        letters(x, 2, 1, 0, 2, 0);
        x.days(1);
        // c has three reasons, and one letter
        letters(x, 3, 1, 1, 3, 0);
        Kit.due("all letters", x.count(11), 8);
        // b was wiped on day 1 and is due on 8, 15, ..; a has letters each day
        x.days(197);
        letters(x, 200, 1, 198, 200, 0);
        Kit.due("all letters at the end", x.count(11), 599);
        Kit.due("without men none", Kit.told("wet 3;").days(200), 200);
    }

    private static void letters(PaneRounds x, int... want) {
        for (int house = 0; house < want.length; house++) {
            Kit.due("letters of house " + house + " ahead of day " + x.count(6), x.now(house, 2), want[house]);
        }
    }

    private void askedAsHeBegins() {
        doc.says(Doc.TERMS, "All this is asked as he begins.");
        doc.says(Doc.TERMS, "and ones that aren't TRUSTED:");
        // it would pay all at once today, but owes too much as he begins
        PaneRounds x = told("house a f m 0 0 1 price 10 home 1;wet 7;trust owes<10;", 9);
        Kit.due("wiped on 0", x.wiped(0), 1);
        Kit.due("not wiped on 8", x.wiped(8), 0);
        Kit.due("a letter", x.now(0, 2), 1);
        // wiped on that day, it owes too much: no letter for it any more
        PaneRounds y = told("house a f m 0 0 1 price 10;trust owes<10;", 1);
        Kit.due("trusted as he begins", y.wiped(0), 1);
        Kit.due("no letter", y.now(0, 2), 0);
        y.days(7);
        Kit.due("not trusted", y.wiped(7), 0);
        Kit.due("a letter then", y.now(0, 2), 1);
        y.pay(0, 0, 1);
        y.days(1);
        Kit.due("trusted again", y.wiped(8), 1);
    }

    private void soManyDays() {
        doc.says(14, "So many days (0 .. 200) more are done: which one is next;");
        PaneRounds x = new PaneRounds();
        Kit.due("days(0)", x.days(0), 0);
        Kit.due("days(1)", x.days(1), 1);
        Kit.due("days(0) again", x.days(0), 1);
        Kit.due("days(198)", x.days(198), 199);
        Kit.due("the last one", x.days(1), 200);
        Kit.due("days(0) at the end", x.days(0), 200);
        Kit.due("days(200) at once", new PaneRounds().days(200), 200);
        PaneRounds y = Kit.told(HEAD + "house a f m 0 0 1;");
        Kit.due("none done", y.days(0), 0);
        Kit.due("so none wiped", y.now(0, 1), 0);
    }

    private void noSuchDays() {
        doc.says(14, "NONE, and none is: no such number, beyond day 200.");
        PaneRounds x = Kit.told(HEAD + "house a f m 0 0 1;");
        Kit.due("days(201)", x.days(201), NONE);
        for (int n : WRONG) {
            Kit.due("days(" + n + ")", x.days(n), NONE);
        }
        Kit.due("none was done", x.count(6), 0);
        x.days(150);
        Kit.due("beyond by one", x.days(51), NONE);
        Kit.due("beyond by far", x.days(200), NONE);
        Kit.due("none was done then", x.count(6), 150);
        Kit.due("days(-1)", x.days(-1), NONE);
        Kit.due("day 149 stands", x.wiped(149), 0);
        Kit.due("just to the end", x.days(50), 200);
        Kit.due("one more", x.days(1), NONE);
        for (int n : WRONG) {
            Kit.due("at the end days(" + n + ")", x.days(n), NONE);
        }
        Kit.due("the end stays", x.count(6), 200);
    }

    private void nowOfAHouse() {
        doc.says(15, "Of a HOUSE now, what 0: when it is DUE, 1: how often it was WIPED, 2: LETTERS, 3: COMPLAINTS,"
                + " 4: whether one lasts (1, 0), 5: the day of its last WIPE (NONE), 6: what was PAID at once in all.");
        PaneRounds x = Kit.told(HEAD + "house a f m 0 0 2 from 1 not 1 home 2 price 4;house b f m 0 0 9 from 199 dog;complain 1;");
        nows(x, 0, 1, 0, 0, 0, 0, NONE, 0);
        nows(x, 1, 199, 0, 0, 0, 0, NONE, 0);
        x.days(2);
        nows(x, 0, 1, 0, 1, 1, 1, NONE, 0);
        x.days(1);
        nows(x, 0, 16, 1, 1, 1, 0, 2, 4);
        x.days(197);
        // due on 16, 30, .. 198; each of these days is weekday 2
        nows(x, 0, 212, 15, 1, 1, 0, 198, 60);
        nows(x, 1, 199, 0, 1, 1, 1, NONE, 0);
    }

    private static void nows(PaneRounds x, int house, int... want) {
        for (int what = 0; what < want.length; what++) {
            Kit.due("ahead of day " + x.count(6) + " now(" + house + ", " + what + ")", x.now(house, what), want[what]);
        }
    }

    private void noSuchNow() {
        doc.says(15, "Integer.MIN_VALUE: no such ones.");
        Kit.due("new: now(0, 0)", new PaneRounds().now(0, 0), NO_SUCH);
        PaneRounds x = told("house a f m 0 0 1;house b f m 0 0 1;", 3);
        Kit.due("now(1, 6)", x.now(1, 6), 0);
        Kit.due("now(1, 7)", x.now(1, 7), NO_SUCH);
        Kit.due("now(2, 0)", x.now(2, 0), NO_SUCH);
        Kit.due("now(10, 0)", x.now(10, 0), NO_SUCH);
        for (int n : WRONG) {
            Kit.due("now(" + n + ", 0)", x.now(n, 0), NO_SUCH);
            Kit.due("now(0, " + n + ")", x.now(0, n), NO_SUCH);
        }
    }

    private void wipedOnADay() {
        doc.says(17, "HOUSES WIPED on a day that was done (bits);");
        StringBuilder ten = new StringBuilder();
        for (int i = 0; i < 10; i++) {
            ten.append("house ").append((char) ('a' + i)).append(" f m 0 0 ").append(i % 9 + 1).append(';');
        }
        PaneRounds x = told(ten.toString(), 200);
        for (int day = 0; day < 200; day++) {
            int bits = 0;
            for (int i = 0; i < 10; i++) {
                bits |= day % (7 * (i % 9 + 1)) == 0 ? 1 << i : 0;
            }
            Kit.due("wiped(" + day + ")", x.wiped(day), bits);
        }
        PaneRounds y = Kit.told("front f 1 1;man m 0 0 10;man n 0 0 10;house a f m 0 0 1;house b f n 0 0 1;house c f m 0 0 1;");
        y.days(1);
        Kit.due("by all men", y.wiped(0), 7);
    }

    private void noSuchWiped() {
        doc.says(17, "NONE: no such day.");
        PaneRounds x = Kit.told(HEAD + "house a f m 0 0 1;");
        Kit.due("none done", x.wiped(0), NONE);
        x.days(5);
        Kit.due("wiped(4)", x.wiped(4), 0);
        Kit.due("wiped(5)", x.wiped(5), NONE);
        x.days(195);
        Kit.due("wiped(199)", x.wiped(199), 0);
        Kit.due("wiped(200)", x.wiped(200), NONE);
        for (int day : WRONG) {
            Kit.due("wiped(" + day + ")", x.wiped(day), NONE);
        }
        Kit.tell(x, "wet 1;");
        Kit.due("none is done of a new text", x.wiped(0), NONE);
    }
}
