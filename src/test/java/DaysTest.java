/** Promises 6, 14 to 18, 31: look, days, now, wet, wiped, way, tanks. */
public final class DaysTest {
    private static final int NONE = PaneRounds.NONE;
    private static final int NO_SUCH = Integer.MIN_VALUE;
    /** Its front takes 5 minutes. */
    private static final String START = "pole p 10 0;front f 1 1 pane 0 1;";

    public static void main(String[] args) {
        looking();
        counting();
        rounds();
        lettersAndDogs();
        openDoors();
        complaints();
        rules();
        men();
        notHeld();
        tanks();
        Kit.end();
    }

    private static int lookKind(PaneRounds x, int house, int what) {
        try {
            x.look(house, what);
            return 0;
        } catch (IndexOutOfBoundsException e) {
            return e.getClass() == IndexOutOfBoundsException.class ? 1 : 3;
        } catch (java.util.NoSuchElementException e) {
            return 2;
        }
    }

    private static void looking() {
        PaneRounds x = Kit.told(START + "front g 1 1;man m 0 0 10;man n 0 0 10;house a f m 1 2 3;"
                + "house b g n 9 99 9 not 0 not 6 price 999 dog from 199 home 1 home 5;");
        int[] a = {0, 0, 1, 2, 3, 0, 10, 0, 0};
        int[] b = {1, 1, 9, 99, 9, 65, 999, 1, 34};
        for (int what = 0; what < 9; what++) {
            Kit.due("look(0, " + what + ")", x.look(0, what), a[what]);
            Kit.due("look(1, " + what + ")", x.look(1, what), b[what]);
        }
        Kit.due("now(1, 0)", x.now(1, 0), 199);
        Kit.due("look(2, 0)", lookKind(x, 2, 0), 1);
        Kit.due("look(-1, 0)", lookKind(x, -1, 0), 1);
        Kit.due("look(2, 9)", lookKind(x, 2, 9), 1);
        Kit.due("look(0, 9)", lookKind(x, 0, 9), 2);
        Kit.due("look(0, -1)", lookKind(x, 0, -1), 2);
        x.sell(0, 1);
        Kit.due("look(0, 1) sold", x.look(0, 1), 1);
    }

    private static void counting() {
        PaneRounds x = Kit.told(START + "wet 0;wet 5 to 7;wet 199;");
        Kit.due("wet(0)", x.wet(0), 1);
        Kit.due("wet(4)", x.wet(4), 0);
        Kit.due("wet(5)", x.wet(5), 1);
        Kit.due("wet(7)", x.wet(7), 1);
        Kit.due("wet(8)", x.wet(8), 0);
        Kit.due("wet(199)", x.wet(199), 1);
        Kit.due("wet(200)", x.wet(200), NONE);
        Kit.due("wet(-1)", x.wet(-1), NONE);
        Kit.due("count(8)", x.count(8), 5);
        Kit.due("days(-1)", x.days(-1), NONE);
        Kit.due("days(201)", x.days(201), NONE);
        Kit.due("days(MAX)", x.days(Integer.MAX_VALUE), NONE);
        Kit.due("days(0)", x.days(0), 0);
        Kit.due("days(2)", x.days(2), 2);
        Kit.due("days(199)", x.days(199), NONE);
        Kit.due("days(198)", x.days(198), 200);
        Kit.due("wiped(200)", x.wiped(200), NONE);
        Kit.due("wiped(199)", x.wiped(199), 0);
        Kit.due("wiped(-1)", x.wiped(-1), NONE);
        Kit.due("now(0, 0)", x.now(0, 0), NO_SUCH);
        Kit.due("way(0, 0, 0)", x.way(0, 0, 0), NONE);
    }

    private static void rounds() {
        String houses = "house a f m 0 10 1;house b f m 0 2 1;house c f m 0 1 1 from 1;";
        // a: 10 + 5 (+ 10 home); b: 8 + 5 (+ 2 home): 30 is just enough
        PaneRounds x = Kit.told(START + "man m 0 0 30;" + houses);
        Kit.due("now(0, 5)", x.now(0, 5), NONE);
        x.days(2);
        way(x, 0, 2, 20, 30, 0, 1);
        way(x, 1, 1, 2, 7, 2);
        Kit.due("wiped(0)", x.wiped(0), 3);
        Kit.due("wiped(1)", x.wiped(1), 4);
        Kit.due("due a", x.now(0, 0), 7);
        Kit.due("due c", x.now(2, 0), 8);
        Kit.due("last c", x.now(2, 5), 1);
        // 29 isn't: b waits till day 1 and is first there
        PaneRounds y = Kit.told(START + "man m 0 0 29;" + houses);
        y.days(2);
        way(y, 0, 1, 20, 25, 0);
        way(y, 1, 2, 2 + 1 + 1, 14, 1, 2);
        Kit.due("no letter for want of time", y.now(1, 2), 0);
        Kit.due("due b by the day it was wiped", y.now(1, 0), 8);
        // one is left out, the next is done from where he stays
        PaneRounds z = Kit.told(START + "man m 0 0 30;house a f m 0 10 1;house b f m 3 0 1;house c f m 0 7 1;");
        z.days(1);
        way(z, 0, 2, 20, 30, 0, 2);
        Kit.due("what 5", z.way(0, 0, 5), NONE);
        Kit.due("what -1", z.way(0, 0, -1), NONE);
        Kit.due("what MAX", z.way(0, 0, Integer.MAX_VALUE), NONE);
        Kit.due("man 1", z.way(1, 0, 0), NONE);
        Kit.due("man -1", z.way(-1, 0, 0), NONE);
        Kit.due("day 1", z.way(0, 1, 0), NONE);
        Kit.due("day -1", z.way(0, -1, 0), NONE);
        for (int what = 0; what < 7; what++) {
            Kit.due("now(3, " + what + ")", z.now(3, what), NO_SUCH);
        }
        Kit.due("now(0, 7)", z.now(0, 7), NO_SUCH);
        Kit.due("now(0, -1)", z.now(0, -1), NO_SUCH);
        Kit.due("now(-1, 0)", z.now(-1, 0), NO_SUCH);
        wetDays();
    }

    private static void way(PaneRounds x, int day, int size, int walk, int minutes, int... houses) {
        Kit.due("day " + day + " houses", x.way(0, day, 0), size);
        Kit.due("day " + day + " walk", x.way(0, day, 1), walk);
        Kit.due("day " + day + " minutes", x.way(0, day, 2), minutes);
        for (int i = 0; i < houses.length; i++) {
            Kit.due("day " + day + " house " + i, x.way(0, day, 3 + i), houses[i]);
        }
        Kit.due("day " + day + " no more", x.way(0, day, 3 + houses.length), NONE);
    }

    private static void wetDays() {
        PaneRounds x = Kit.told(START + "man m 0 0 30;house a f m 0 10 1 not 0;house b f m 0 0 2;wet 0 to 7;");
        x.days(8);
        Kit.due("not wiped in the rain", x.now(1, 1), 0);
        Kit.due("no letters in the rain", x.count(11), 0);
        Kit.due("a wet way", x.way(0, 3, 0), 0);
        Kit.due("a wet way's walk", x.way(0, 3, 1), 0);
        x.days(1);
        Kit.due("both on day 8", x.wiped(8), 3);
        Kit.due("due in a week", x.now(0, 0), 15);
        Kit.due("due in two weeks", x.now(1, 0), 22);
    }

    private static void lettersAndDogs() {
        PaneRounds x = Kit.told(START + "man m 0 0 600;house a f m 0 0 9 not 0 not 1 dog home 3;house b f m 0 0 9 dog;"
                + "house c f m 0 0 9 from 2 not 2 dog;");
        x.days(3);
        Kit.due("a: one a day", x.now(0, 2), 3);
        Kit.due("c: first when due", x.now(2, 2), 1);
        x.days(1);
        Kit.due("a is wiped on 3", x.wiped(3), 1);
        x.days(6);
        Kit.due("a: no more", x.now(0, 2), 3);
        Kit.due("b: each day", x.now(1, 2), 10);
        Kit.due("all letters", x.count(11), 3 + 10 + 8);
        PaneRounds y = Kit.told(START + "man m 0 0 600;house a f m 0 0 1 not 0 home 0;");
        y.days(2);
        Kit.due("they won't though they open", y.wiped(0), 0);
        Kit.due("on day 1", y.wiped(1), 1);
    }

    private static void openDoors() {
        // wiped on 0, 7 + 1 (wet), 15, and so on: somebody opens on weekday 1 alone
        PaneRounds x = Kit.told(START + "man m 0 0 600;house a f m 0 0 1 price 7 home 1;wet 7;");
        x.days(1);
        Kit.due("nobody opens on 0", x.now(0, 6), 0);
        Kit.due("owes", x.balance(0, -1), 7);
        x.days(7);
        Kit.due("nobody opens when it rains", x.now(0, 6), 0);
        x.days(1);
        Kit.due("all is paid on 8", x.now(0, 6), 14);
        Kit.due("owes none", x.balance(0, -1), 0);
        x.pay(0, 0, 5);
        x.days(7);
        Kit.due("less is owed on 15", x.now(0, 6), 16);
        x.pay(0, 0, 100);
        x.days(7);
        Kit.due("none is owed on 22", x.now(0, 6), 16);
        Kit.due("below 0", x.balance(0, -1), 28 - 16 - 105);
    }

    private static void complaints() {
        // from 0 on somebody waits: wet till 9; wiped on 10; due 17, wet again
        PaneRounds x = Kit.told(START + "man m 0 0 600;house a f m 0 0 1;wet 0 to 9;wet 17 to 30;complain waits>=2;");
        x.days(2);
        Kit.due("waits 1", x.now(0, 3), 0);
        x.days(1);
        Kit.due("waits 2", x.now(0, 3), 1);
        Kit.due("it lasts", x.now(0, 4), 1);
        x.days(7);
        Kit.due("one spell", x.now(0, 3), 1);
        Kit.due("still lasts", x.now(0, 4), 1);
        x.days(1);
        Kit.due("wiped", x.now(0, 4), 0);
        x.days(9);
        Kit.due("the next spell", x.now(0, 3), 2);
        Kit.due("all", x.count(12), 2);
        // it lasts till it is wiped, though the rule holds on one day only
        PaneRounds y = Kit.told(START + "man m 0 0 600;house a f m 0 0 1;wet 0 to 199;complain day=3 or day=5;");
        y.days(9);
        Kit.due("one spell of two days", y.now(0, 3), 1);
        Kit.due("it still lasts", y.now(0, 4), 1);
        // not due: nobody complains
        PaneRounds z = Kit.told(START + "man m 0 0 600;house a f m 0 0 1 from 5 dog;complain 1;");
        z.days(5);
        Kit.due("not due yet", z.count(12), 0);
        z.days(1);
        Kit.due("due", z.count(12), 1);
        PaneRounds w = Kit.told(START + "man m 0 0 600;house a f m 0 0 1;complain 1;");
        w.days(20);
        Kit.due("wiped in time", w.count(12), 0);
    }

    /** A rule's value by who is trusted: on day 9, price 10, every 2, due 6, wiped never, owing 0 less 4. */
    private static void rule(String rule, boolean holds) {
        PaneRounds x = Kit.told(START + "man m 0 0 600;house a f m 0 0 2 from 6;wet 0 to 8;trust " + rule + ";");
        x.pay(0, 0, 4);
        x.days(10);
        Kit.due("trust " + rule, x.now(0, 1), holds ? 1 : 0);
        Kit.due("letter by " + rule, x.now(0, 2), holds ? 0 : 1);
        PaneRounds y = Kit.told(START + "man m 0 0 600;house a f m 0 0 2 from 6 dog;wet 0 to 8;complain day=9 and(" + rule + ");");
        y.pay(0, 0, 4);
        y.days(10);
        Kit.due("complain " + rule, y.now(0, 3), holds ? 1 : 0);
    }

    private static void rules() {
        rule("waits=3", true);
        rule("owes=0-4", true);
        rule("times=0", true);
        rule("price=10", true);
        rule("every=2", true);
        rule("day=9", true);
        rule("day", true);
        rule("times", false);
        rule("0-1", true);
        rule("not 0-1", false);
        rule("not not 5=1", false);
        rule("(not not 5)=1", true);
        rule("2+3*4=14", true);
        rule("(2+3)*4=20", true);
        rule("10-3-2=5", true);
        rule("100/7/2=7", true);
        rule("7/2*2=6", true);
        rule("7*2/4=3", true);
        rule("10-3+2=9", true);
        rule("1-1=0 and 2*3-4*5=0-14", true);
        rule("(0-7)/2=0-3", true);
        rule("7/(0-2)=0-3", true);
        rule("1<2 and 2<=2 and 2=2 and 1<>2 and 2>=2 and 3>2", true);
        rule("2<2 or 3<=2 or 1=2 or 2<>2 or 1>=2 or 2>2", false);
        rule("1 or 0 and 0", true);
        rule("(1 or 0)and 0", false);
        rule("not 1 or 1", true);
        rule("not(1 or 1)", false);
        rule("not 1=2", true);
        rule("5 and 6=1", false);
        rule("(5 and 6)=1", true);
        rule("(0 or 6)=1", true);
        rule("1/0", false);
        rule("not(1/0)", false);
        rule("1 or 1/0", false);
        rule("0 and 1/0 or 1", false);
        rule("1/(day-9)=0 or 1", false);
        // 9999 * 9999 * 9999 is 999700029999, 299970001 short of the limit
        rule("9999*9999*9999>0", true);
        rule("9999*9999*9999+9999*9999*2+9999*9999>0", true);
        rule("9999*9999*9999+9999*9999*4>0", false);
        rule("0-9999*9999*9999-9999*9999*4<0", false);
        rule("0-9999*9999*9999<0", true);
        rule("5000*5000*8000*5=5000*5000*40*1000", true);
        rule("5000*5000*8000*5>0", true);
        rule("5000*5000*8000*5+1>0", false);
        rule("0-5000*5000*8000*5<0", true);
        rule("0-5000*5000*8000*5-1<0", false);
        rule("(0-5000)*5000*8000*5=0-5000*5000*8000*5", true);
        rule("9999*9999*9999*9999*9999*9999*9999<>0", false);
        rule("9999*9999*9999*0*9999*9999*9999=0", true);
    }

    private static void men() {
        PaneRounds x = Kit.told(START + "man m 0 0 30;man n 0 50 30;house a f m 0 10 1;house b f n 0 40 1;house c f n 0 55 1;");
        x.days(1);
        Kit.due("m", x.way(0, 0, 0), 1);
        Kit.due("n", x.way(1, 0, 0), 1);
        Kit.due("n's", x.way(1, 0, 3), 1);
        x.sell(1, 0);
        x.days(1);
        Kit.due("what was done stays his", x.way(1, 0, 3), 1);
        Kit.due("n does c", x.way(1, 1, 3), 2);
        x.days(6);
        Kit.due("b is too far for m", x.wiped(7), 1);
        Kit.due("b waits", x.now(1, 0), 7);
    }

    /** A day's work is never held: a ladder on soft ground takes no time, as it wipes nothing. */
    private static void notHeld() {
        PaneRounds x = Kit.told("ladder l 11;front f 1 10 pane 0 10 soft 0;man m 0 0 10;house a f m 0 2 1;");
        Kit.due("held", x.minutes(0, 1, true), 8);
        x.days(1);
        Kit.due("wiped", x.wiped(0), 1);
        Kit.due("minutes", x.way(0, 0, 2), 4);
        PaneRounds y = Kit.told("ladder l 11;pole p 12 0;front f 1 10 pane 0 10 soft 0;man m 0 0 10;house a f m 0 2 1;tank 1 1;");
        Kit.due("held by the ladder", y.fewest(0, 3, true, 1) & 15, 0);
        y.days(1);
        Kit.due("not held by the pole", y.tanks(0, 0), 1);
    }

    private static void tanks() {
        // f: two panes by the pole; g: a ladder takes panes 1 and 2 first, the pole the rest
        String text = "ladder l 11;pole p 5 0;front f 2 2 pane 0 1 pane 1 2;front g 1 11 pane 0 4 pane 0 5 pane 0 11;"
                + "man m 0 0 600;man n 0 0 600;house a f m 0 0 1;house b g m 0 0 1;house c g m 0 0 1 from 1;";
        PaneRounds x = Kit.told(text + "tank 7 2;");
        Kit.due("not done", x.tanks(0, 0), NONE);
        x.days(2);
        Kit.due("g by both", x.fewest(1, 3, false, 0), 2);
        Kit.due("three panes take 6", x.tanks(0, 0), 1);
        Kit.due("one pane takes 2", x.tanks(0, 1), 1);
        Kit.due("none", x.tanks(1, 0), 0);
        Kit.due("man 2", x.tanks(2, 0), NONE);
        Kit.due("man -1", x.tanks(-1, 0), NONE);
        Kit.due("day 2", x.tanks(0, 2), NONE);
        Kit.due("day -1", x.tanks(0, -1), NONE);
        for (int holds = 1; holds <= 13; holds++) {
            PaneRounds y = Kit.told(text + "tank " + holds + " 4;");
            y.days(1);
            Kit.due("12 by " + holds, y.tanks(0, 0), (12 + holds - 1) / holds);
        }
        PaneRounds z = Kit.told(text);
        z.days(1);
        Kit.due("without a tank", z.tanks(0, 0), 0);
        Kit.due("without a tank, not done", z.tanks(0, 1), NONE);
        Kit.due("without a tank, man 2", z.tanks(2, 0), NONE);
    }
}
