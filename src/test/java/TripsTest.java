/** Promises 19, 20, 26 to 29: shortest, walk, worth, tour, swap, sell. */
public final class TripsTest {
    private static final int NONE = PaneRounds.NONE;
    private static final String START = "pole p 10 0;front f 1 1 pane 0 1;";

    public static void main(String[] args) {
        walks();
        shortestWays();
        manyStops();
        worths();
        tours();
        swaps();
        Kit.end();
    }

    private static void walks() {
        PaneRounds x = Kit.told(START + "man m 0 0 600;house a f m 0 0 1;house b f m 9 99 1;house c f m 2 99 1;");
        Kit.due("walk(0, 0)", x.walk(0, 0), 0);
        Kit.due("walk(0, 1)", x.walk(0, 1), 189);
        Kit.due("walk(1, 0)", x.walk(1, 0), 189);
        Kit.due("walk(1, 2)", x.walk(1, 2), 70);
        Kit.due("walk(0, 3)", x.walk(0, 3), NONE);
        Kit.due("walk(3, 0)", x.walk(3, 0), NONE);
        Kit.due("walk(-1, 0)", x.walk(-1, 0), NONE);
        Kit.due("walk(0, -1)", x.walk(0, -1), NONE);
    }

    private static void shortestWays() {
        // he goes 9, 3, 6 by the numbers; there and back is shortest, and the first such order is 0 (9) last but for ties
        PaneRounds x = Kit.told(START + "man m 0 5 600;house a f m 0 9 1;house b f m 0 3 1;house c f m 0 6 1;");
        Kit.due("not done", x.shortest(0, 0, 0), NONE);
        x.days(2);
        Kit.due("walk as done", x.way(0, 0, 1), 4 + 6 + 3 + 1);
        Kit.due("least", x.shortest(0, 0, 0), 12);
        Kit.due("first", x.shortest(0, 0, 1), 0);
        Kit.due("second", x.shortest(0, 0, 2), 2);
        Kit.due("third", x.shortest(0, 0, 3), 1);
        Kit.due("no fourth", x.shortest(0, 0, 4), NONE);
        Kit.due("what -1", x.shortest(0, 0, -1), NONE);
        Kit.due("what MAX", x.shortest(0, 0, Integer.MAX_VALUE), NONE);
        Kit.due("no houses", x.shortest(0, 1, 0), 0);
        Kit.due("no houses, first", x.shortest(0, 1, 1), NONE);
        Kit.due("man 1", x.shortest(1, 0, 0), NONE);
        Kit.due("man -1", x.shortest(-1, 0, 0), NONE);
        Kit.due("day 2", x.shortest(0, 2, 0), NONE);
        Kit.due("day -1", x.shortest(0, -1, 0), NONE);
        // all at one place: the order is by numbers
        PaneRounds y = Kit.told(START + "man m 0 5 600;house a f m 0 7 1 from 3;house b f m 0 7 1 from 2;house c f m 0 7 1 from 1;"
                + "wet 0 to 2;");
        y.days(4);
        Kit.due("done by waiting", y.way(0, 3, 3), 2);
        for (int i = 0; i < 3; i++) {
            Kit.due("by numbers " + i, y.shortest(0, 3, 1 + i), i);
        }
    }

    private static void manyStops() {
        StringBuilder b = new StringBuilder(START + "man m 0 0 600;");
        int[] places = {40, 10, 60, 20, 70, 30, 50};
        for (int i = 0; i < 7; i++) {
            b.append("house ").append((char) ('a' + i)).append(" f m 0 ").append(places[i]).append(" 1;");
        }
        PaneRounds x = Kit.told(b.toString());
        x.days(1);
        Kit.due("seven", x.way(0, 0, 0), 7);
        Kit.due("seven: least", x.shortest(0, 0, 0), 140);
        // of all that go up to 70 and down again the first by numbers: 40, 60, 70, 50 .. on the way down
        int[] order = {0, 2, 4, 6, 5, 3, 1};
        for (int i = 0; i < 7; i++) {
            Kit.due("seven: " + i, x.shortest(0, 0, 1 + i), order[i]);
        }
        PaneRounds y = Kit.told(b + "house h f m 0 1 1;");
        y.days(1);
        Kit.due("eight", y.way(0, 0, 0), 8);
        Kit.due("eight: least", y.shortest(0, 0, 0), NONE);
        Kit.due("eight: first", y.shortest(0, 0, 1), NONE);
    }

    private static void worths() {
        PaneRounds x = Kit.told(START + "man m 0 0 600;man n 0 0 10;house a f m 0 0 5;house b f m 0 0 7 price 3;house c f n 0 0 1 price 999;");
        // 720 / 5, and 216 / 7 cut
        Kit.due("worth(0)", x.worth(0), 144 + 30);
        Kit.due("worth(1)", x.worth(1), 71928);
        Kit.due("worth(2)", x.worth(2), NONE);
        Kit.due("worth(-1)", x.worth(-1), NONE);
        Kit.due("sell", x.sell(0, 1) ? 1 : 0, 1);
        Kit.due("worth(0) sold", x.worth(0), 30);
        Kit.due("worth(1) sold", x.worth(1), 71928 + 144);
        Kit.due("his already", x.sell(0, 1) ? 1 : 0, 0);
        Kit.due("no man 2", x.sell(0, 2) ? 1 : 0, 0);
        Kit.due("no man -1", x.sell(0, -1) ? 1 : 0, 0);
        Kit.due("no house 3", x.sell(3, 0) ? 1 : 0, 0);
        Kit.due("no house -1", x.sell(-1, 0) ? 1 : 0, 0);
        PaneRounds y = Kit.told(START + "man m 0 0 600;house a f m 0 0 5 price 1;house b f m 0 0 5 price 1;");
        Kit.due("each is cut", y.worth(0), 28);
    }

    private static void tours() {
        PaneRounds x = Kit.told(START + "man m 1 5 600;man n 3 9 10;house a f m 2 1 1;house b f m 0 7 1;house c f m 0 3 1;house d f m 2 0 1;");
        // by street and place: c (0 3), b (0 7), d (2 0), a (2 1)
        Kit.due("tour(0)", x.tour(0), 12 + 4 + 27 + 1 + 14);
        Kit.due("tour(1)", x.tour(1), 0);
        Kit.due("tour(2)", x.tour(2), NONE);
        Kit.due("tour(-1)", x.tour(-1), NONE);
        x.sell(1, 1);
        Kit.due("tour(0) sold", x.tour(0), 12 + 23 + 1 + 14);
        Kit.due("tour(1) sold", x.tour(1), 2 * 32);
    }

    private static void swaps() {
        Kit.due("no men", Kit.told("ladder a 9;").swap(0, 0), NONE);
        PaneRounds none = Kit.told("man m 0 0 10;");
        Kit.due("no houses", none.swap(0, 0), 0);
        Kit.due("no houses, 1", none.swap(0, 1), NONE);
        // two live at the ends; each has the other's house; c stands with n, is m's
        PaneRounds x = Kit.told(START + "man m 0 0 600;man n 0 90 600;house a f n 0 5 1;house b f m 0 80 1;house c f m 0 85 2;");
        Kit.due("now", x.tour(0) + x.tour(1), 2 * 85 + 2 * 85);
        Kit.due("nobody loses", x.swap(0, 0), 170 + 20);
        Kit.due("a goes to m", x.swap(0, 1), 0);
        Kit.due("b goes to n", x.swap(0, 2), 1);
        Kit.due("c stays", x.swap(0, 3), 0);
        Kit.due("m may lose 359", x.swap(359, 0), 190);
        Kit.due("m may lose 360", x.swap(360, 0), 10 + 20);
        Kit.due("c goes, too", x.swap(360, 3), 1);
        Kit.due("nothing changed", x.look(0, 1), 1);
        Kit.due("what 4", x.swap(0, 4), NONE);
        Kit.due("what -1", x.swap(0, -1), NONE);
        Kit.due("loss -1", x.swap(-1, 0), NONE);
        Kit.due("loss 9999", x.swap(9999, 0), 30);
        Kit.due("loss 10000", x.swap(10000, 0), NONE);
        x.sell(0, 0);
        x.sell(1, 1);
        x.sell(2, 1);
        Kit.due("all sold", x.swap(0, 0), 30);
        // of equals the first by men: both live together
        PaneRounds y = Kit.told(START + "man m 0 0 600;man n 0 0 600;house a f n 0 5 1;house b f m 0 5 1;house c f n 0 0 1 price 0;");
        Kit.due("equals", y.swap(0, 0), 20);
        Kit.due("equals a", y.swap(0, 1), 0);
        Kit.due("equals b", y.swap(0, 2), 1);
        Kit.due("equals c", y.swap(0, 3), 0);
        Kit.due("one goes for both", y.swap(720, 0), 10);
        Kit.due("both to m", y.swap(720, 2), 0);
    }
}
