/** One text behind another on one object: nothing of the former ones is left (promise 3), also behind refused ones. */
final class EdgeRetold {
    private static final String[] TEXTS = {
        // much of all
        "ladder a 11;ladder b 17;ladder c 4;ladder d 30;pole e 8 0;pole g 20 1;pole h 40 9;front f 5 24 pane 0 5 pane 4 11 pane 2 4 pane 3 20 block 1 soft 4;"
            + "front g 2 9 pane 0 9 pane 1 1 soft 0 soft 1;front h 12 2 pane 11 2 block 11 block 0;man m 3 40 90;man n 0 0 60;man o 9 99 200;"
            + "house a f m 3 45 1 not 0 price 999 dog home 2 home 1;house b g n 0 9 2 not 5 home 0 from 3;house c h o 9 90 1 price 0;"
            + "house d f m 4 41 3 dog;house e g n 1 0 7;wet 0 to 1;wet 9;complain waits>1 and not (price<5);trust owes<2000 or day>12;tank 9 4;",
        // the same kinds, fewer and otherwise
        "pole e 10 0;front h 4 5 pane 0 1 pane 3 1;man o 0 5 30;man m 0 9 40;house c h m 0 3 1;house a h o 0 12 2 price 3;wet 5;trust 1;",
        // tools and a front only
        "ladder c 11;front f 3 12 pane 1 10 soft 2;wet 199;",
        // houses without tools or panes, rules the other way
        "front g 1 1;man n 1 50 100;man m 2 50 100;house b g n 1 55 1 home 1;house c g m 2 45 1 dog home 2;house d g n 1 1 9 not 0;complain waits;tank 1 1;",
        "",
        "complain 1;tank 999 99;man m 0 0 10;"};
    private static final String[] FAULTS = {"trust ((((1 or not (2+3*",
        "ladder z 9;ladder y 9;ladder x 9;ladder w 9;pole v 9 0;front f 12 24 pane 5 5 block 3;man m 1 1 99;house h f m 2 2 5 not 3 price 77 dog from 99 home 4 dog;",
        "wet 0 to 199;tank 5 5;complain 1+1;trust 0;tank 1 1;", "house"};
    private final Doc doc;

    EdgeRetold(Doc doc) {
        this.doc = doc;
    }

    void run() {
        doc.says(3, "are the TEXT (day 0 is next, no NOTES, IMAGE then):");
        for (int first = 0; first < TEXTS.length; first++) {
            for (int then = 0; then < TEXTS.length; then++) {
                for (int last = 0; last < TEXTS.length; last++) {
                    retold(first, then, last, (first + then + last) % (FAULTS.length + 1));
                }
            }
        }
    }

    private static void retold(int first, int then, int last, int fault) {
        PaneRounds x = Kit.told(TEXTS[first]);
        use(x);
        Kit.tell(x, TEXTS[then]);
        use(x);
        if (fault < FAULTS.length) {
            Kit.due("refused: " + FAULTS[fault], Kit.tell(x, FAULTS[fault]), PaneRounds.NONE);
        }
        PaneRounds fresh = new PaneRounds();
        String when = "text " + last + " behind " + first + ", " + then + " and fault " + fault;
        Kit.due(when + ": lines", Kit.tell(x, TEXTS[last]), Kit.tell(fresh, TEXTS[last]));
        long[] got = ask(x);
        long[] want = ask(fresh);
        for (int i = 0; i < want.length; i++) {
            Kit.due(when + ": answer " + i, got[i], want[i]);
        }
    }

    /** So that there is something to be left over. */
    private static void use(PaneRounds x) {
        x.fewest(0, 1, true, 0);
        x.pay(0, 3, 5);
        x.pay(1, 3, 5);
        x.strike(0);
        x.days(16);
        x.sell(0, 1);
        x.shortest(0, 7, 1);
        x.swap(100, 1);
        x.keep();
        x.days(5);
    }

    private static long[] ask(PaneRounds x) {
        long[] all = new long[320];
        int n = 0;
        for (int what = 0; what < 13; what++) {
            all[n++] = x.count(what);
        }
        n = askSettings(x, all, n);
        all[n++] = x.swap(100, 0);
        all[n++] = x.swap(100, 2);
        all[n++] = x.back();
        all[n++] = x.pay(1, 0, 4);
        for (int i = 0; i < 2; i++) {
            all[n++] = x.days(i == 0 ? 2 : 15);
            n = askHouses(x, all, n);
        }
        for (int man = 0; man < 3; man++) {
            all[n++] = x.tour(man);
            all[n++] = x.worth(man);
            all[n++] = x.owed(man);
            all[n++] = x.tanks(man, 3);
            all[n++] = x.way(man, 7, 2);
            all[n++] = x.way(man, 14, 4);
            all[n++] = x.shortest(man, 10, 0);
        }
        for (int day = 0; day < 17; day++) {
            all[n++] = x.wiped(day);
            all[n++] = x.wet(day);
        }
        for (int what = 5; what < 13; what++) {
            all[n++] = x.count(what);
        }
        return all;
    }

    private static int askSettings(PaneRounds x, long[] all, int from) {
        int n = from;
        for (int front = 0; front < 3; front++) {
            for (int what = 0; what < 5; what++) {
                all[n++] = x.front(front, what);
            }
            all[n++] = x.named(1, Kit.letters("" + (char) ('f' + front)));
            all[n++] = x.pane(front, 1, 0);
            all[n++] = x.pane(front, 3, 1);
            all[n++] = x.minutes(front, 1, false);
            all[n++] = x.minutes(front, 3, false);
            all[n++] = x.missing(front, 1, true);
            all[n++] = x.covers(front, 0, 1, 3, true);
            all[n++] = x.fewest(front, 1, true, 1);
        }
        for (char c = 'a'; c < 'f'; c++) {
            all[n++] = x.named(0, Kit.letters("" + c));
            all[n++] = x.named(3, Kit.letters("" + c));
        }
        for (char c = 'm'; c < 'p'; c++) {
            all[n++] = x.named(2, Kit.letters("" + c));
        }
        all[n++] = x.instead(1);
        return n;
    }

    private static int askHouses(PaneRounds x, long[] all, int from) {
        int n = from;
        for (int house = 0; house < 5; house++) {
            for (int what = 0; what < 7; what++) {
                all[n++] = x.now(house, what);
            }
            for (int what = 0; what < 9; what++) {
                all[n++] = look(x, house, what);
            }
            all[n++] = x.balance(house, -1);
        }
        return n;
    }

    private static long look(PaneRounds x, int house, int what) {
        try {
            return x.look(house, what);
        } catch (IndexOutOfBoundsException e) {
            return Long.MIN_VALUE;
        }
    }
}
