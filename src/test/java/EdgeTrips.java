/** Edges of ways, tours, swaps and tanks: promises 18 to 20, 26 to 29 and 31, and what the terms say of them. */
final class EdgeTrips {
    private static final int NONE = PaneRounds.NONE;
    private static final int[] WRONG = {-1, Integer.MIN_VALUE, Integer.MAX_VALUE};
    private static final String FRONT = "front f 1 1;";
    private final Doc doc;

    EdgeTrips(Doc doc) {
        this.doc = doc;
    }

    void run() {
        waysInOrder();
        wayPieceByPiece();
        noSuchWay();
        shortestOrders();
        sevenOrEight();
        shortestPieceByPiece();
        noSuchShortest();
        walksBetween();
        noSuchWalk();
        worths();
        tours();
        noSuchMan();
        swapsWithoutLoss();
        swapsByLoss();
        swapOfSeveral();
        swapPieceByPiece();
        noSuchSwap();
        sells();
        refusedSells();
        fillings();
        noSuchFillings();
    }

    private static PaneRounds told(String lines, int days) {
        PaneRounds x = Kit.told(FRONT + lines);
        x.days(days);
        return x;
    }

    private static void way(PaneRounds x, int man, int day, int... houses) {
        Kit.due("houses of man " + man + " on day " + day, x.way(man, day, 0), houses.length);
        for (int i = 0; i < houses.length; i++) {
            Kit.due("house " + i + " of man " + man + " on day " + day, x.way(man, day, 3 + i), houses[i]);
        }
        Kit.due("none behind", x.way(man, day, 3 + houses.length), NONE);
    }

    private static String houses(int number, String rest) {
        StringBuilder b = new StringBuilder();
        for (int i = 0; i < number; i++) {
            b.append("house ").append((char) ('a' + i)).append(' ').append(rest).append(';');
        }
        return b.toString();
    }

    private void waysInOrder() {
        doc.says(Doc.TERMS, "WAY of a MAN on a day that was done: his HOUSES of that day in order.");
        PaneRounds x = told("man m 0 0 600;man n 0 0 600;house a f m 0 3 1 from 2;house b f n 0 2 1;house c f m 0 1 1 from 1;house d f m 0 9 1;wet 0 to 2;", 4);
        way(x, 0, 3, 3, 2, 0);
        way(x, 1, 3, 1);
        way(x, 0, 2);
        // it stays, whosever the houses are then
        x.sell(3, 1);
        way(x, 0, 3, 3, 2, 0);
        way(x, 1, 3, 1);
        x.days(7);
        way(x, 0, 10, 0, 2);
        way(x, 1, 10, 1, 3);
        PaneRounds ten = told("man m 0 0 600;" + houses(10, "f m 0 0 1"), 1);
        way(ten, 0, 0, 0, 1, 2, 3, 4, 5, 6, 7, 8, 9);
    }

    private void wayPieceByPiece() {
        doc.says(18, "WAY of a MAN on a day, what 0: how many HOUSES, 1: all WALK, 2: MINUTES in all (with WALK), 3 and on: HOUSE what less 3.");
        PaneRounds x = Kit.told("pole p 10 0;front f 1 1 pane 0 1;front g 1 1;man m 1 10 600;man n 0 0 600;house a g m 1 12 1;house b f m 2 9 1;");
        x.days(1);
        int[] want = {2, 2 + 13 + 11, 26 + 5, 0, 1, NONE};
        int[] none = {0, 0, 0, NONE};
        for (int what = 0; what < want.length; what++) {
            Kit.due("way(0, 0, " + what + ")", x.way(0, 0, what), want[what]);
        }
        for (int what = 0; what < none.length; what++) {
            Kit.due("way(1, 0, " + what + ")", x.way(1, 0, what), none[what]);
        }
        // a walk of all ten, from end to end
        PaneRounds far = told("man m 0 0 600;house a f m 9 99 1;house b f m 0 0 1;house c f m 0 99 1;", 1);
        Kit.due("as much as he can", far.way(0, 0, 1), 189 + 189 + 99 + 99);
    }

    private void noSuchWay() {
        doc.says(18, "NONE: no such ones, a day that wasn't done.");
        Kit.due("new", new PaneRounds().way(0, 0, 0), NONE);
        PaneRounds x = told("man m 0 0 600;house a f m 0 0 1;", 2);
        Kit.due("day 1", x.way(0, 1, 0), 0);
        Kit.due("day 2", x.way(0, 2, 0), NONE);
        Kit.due("man 1", x.way(1, 0, 0), NONE);
        Kit.due("man 3", x.way(3, 0, 0), NONE);
        Kit.due("house 1 of it", x.way(0, 0, 4), NONE);
        Kit.due("house 10 of it", x.way(0, 0, 13), NONE);
        Kit.due("house 16 of it", x.way(0, 0, 19), NONE);
        for (int n : WRONG) {
            Kit.due("man " + n, x.way(n, 0, 0), NONE);
            Kit.due("day " + n, x.way(0, n, 0), NONE);
            Kit.due("what " + n, x.way(0, 0, n), NONE);
        }
        x.days(198);
        Kit.due("day 199", x.way(0, 199, 0), 0);
        Kit.due("day 200", x.way(0, 200, 0), NONE);
    }

    private static void shortest(PaneRounds x, int man, int day, int walk, int... houses) {
        Kit.due("shortest walk on " + day, x.shortest(man, day, 0), walk);
        for (int i = 0; i < houses.length; i++) {
            Kit.due("shortest: house " + i + " on " + day, x.shortest(man, day, 1 + i), houses[i]);
        }
        Kit.due("shortest: none behind", x.shortest(man, day, 1 + houses.length), NONE);
    }

    private void shortestOrders() {
        doc.says(Doc.TERMS, "SHORTEST: the least WALK from home by these HOUSES");
        doc.says(Doc.TERMS, "and home again; of several the first order by HOUSES.");
        PaneRounds x = told("man m 0 50 600;house a f m 0 60 1;house b f m 0 40 1;house c f m 0 55 1;", 1);
        Kit.due("his way", x.way(0, 0, 1), 50);
        shortest(x, 0, 0, 40, 0, 2, 1);
        // all orders walk as much: the first one
        shortest(told("man m 0 0 600;" + houses(7, "f m 0 7 1"), 1), 0, 0, 14, 0, 1, 2, 3, 4, 5, 6);
        // out and back: each order that turns once walks as much
        shortest(told("man m 0 0 600;house a f m 0 30 1;house b f m 0 10 1;house c f m 0 20 1;", 1), 0, 0, 60, 0, 2, 1);
        shortest(told("man m 0 0 600;house a f m 0 10 1;house b f m 0 30 1;house c f m 0 20 1;house d f m 0 25 1;", 1), 0, 0, 60, 0, 1, 3, 2);
        shortest(told("man m 0 0 600;house a f m 0 20 1;house b f m 0 10 1;house c f m 0 30 1;", 1), 0, 0, 60, 0, 2, 1);
        // its houses are those of the way, in whichever order they were wiped
        PaneRounds y = told("man m 0 0 600;house a f m 0 10 1 from 1;house b f m 0 20 1;house c f m 5 0 1 from 9;house d f m 0 5 1;wet 0;", 2);
        way(y, 0, 1, 1, 3, 0);
        shortest(y, 0, 1, 40, 0, 1, 3);
        // sold then: it stays his way
        y.sell(1, 0);
        shortest(y, 0, 1, 40, 0, 1, 3);
        shortest(told("man m 0 0 600;house a f m 9 99 1;", 1), 0, 0, 378, 0);
        shortest(told("man m 0 0 600;", 1), 0, 0, 0);
    }

    private void sevenOrEight() {
        doc.says(Doc.TERMS, "(at most 7, else NONE)");
        PaneRounds seven = told("man m 0 0 600;" + houses(7, "f m 1 0 1") + "house z f m 1 0 1 from 1;", 1);
        shortest(seven, 0, 0, 20, 0, 1, 2, 3, 4, 5, 6);
        PaneRounds eight = told("man m 0 0 600;" + houses(8, "f m 1 0 1"), 1);
        PaneRounds ten = told("man m 0 0 600;" + houses(10, "f m 1 0 1"), 1);
        for (int what = 0; what < 12; what++) {
            Kit.due("eight: " + what, eight.shortest(0, 0, what), NONE);
            Kit.due("ten: " + what, ten.shortest(0, 0, what), NONE);
        }
        Kit.due("their way", ten.way(0, 0, 0), 10);
    }

    private void shortestPieceByPiece() {
        doc.says(19, "SHORTEST of a MAN on a day, what 0: its WALK, 1 and on: HOUSE what less 1.");
        PaneRounds x = told("man m 0 0 600;man n 0 99 600;house a f m 0 1 1;house b f n 0 98 1;house c f m 0 2 1 from 1;", 2);
        // asked in turns, each its own
        for (int i = 0; i < 2; i++) {
            Kit.due("m on 0", x.shortest(0, 0, 0), 2);
            Kit.due("n on 0", x.shortest(1, 0, 1), 1);
            Kit.due("m's house on 0", x.shortest(0, 0, 1), 0);
            Kit.due("m's house on 1", x.shortest(0, 1, 1), 2);
            Kit.due("m on 1", x.shortest(0, 1, 0), 4);
            Kit.due("n on 1", x.shortest(1, 1, 0), 0);
            Kit.due("n's house on 1", x.shortest(1, 1, 1), NONE);
        }
    }

    private void noSuchShortest() {
        doc.says(19, "NONE: more than 7, no such ones.");
        Kit.due("new", new PaneRounds().shortest(0, 0, 0), NONE);
        PaneRounds x = told("man m 0 0 600;house a f m 0 0 1;", 2);
        Kit.due("day 1", x.shortest(0, 1, 0), 0);
        Kit.due("day 2", x.shortest(0, 2, 0), NONE);
        Kit.due("man 1", x.shortest(1, 0, 0), NONE);
        Kit.due("what 1", x.shortest(0, 0, 1), 0);
        Kit.due("what 2", x.shortest(0, 0, 2), NONE);
        Kit.due("what 8", x.shortest(0, 0, 8), NONE);
        for (int n : WRONG) {
            Kit.due("man " + n, x.shortest(n, 0, 0), NONE);
            Kit.due("day " + n, x.shortest(0, n, 0), NONE);
            Kit.due("what " + n, x.shortest(0, 0, n), NONE);
        }
        x.days(198);
        Kit.due("day 199", x.shortest(0, 199, 0), 0);
        Kit.due("day 200", x.shortest(0, 200, 0), NONE);
    }

    private void walksBetween() {
        doc.says(20, "WALK between two HOUSES;");
        PaneRounds x = told("man m 0 0 600;house a f m 0 0 1;house b f m 9 99 1;house c f m 9 0 1;house d f m 0 99 1;house e f m 4 50 1;house g f m 4 50 1;", 0);
        int[][] want = {{0, 189, 90, 99, 90}, {189, 0, 99, 90, 99}, {90, 99, 0, 189, 100}, {99, 90, 189, 0, 89}, {90, 99, 100, 89, 0}};
        for (int i = 0; i < 5; i++) {
            for (int k = 0; k < 5; k++) {
                Kit.due("walk(" + i + ", " + k + ")", x.walk(i, k), want[i][k]);
            }
        }
        Kit.due("at one place", x.walk(4, 5), 0);
    }

    private void noSuchWalk() {
        doc.says(20, "NONE: no such ones.");
        Kit.due("new", new PaneRounds().walk(0, 0), NONE);
        PaneRounds x = told("man m 0 0 600;house a f m 0 0 1;house b f m 0 1 1;", 0);
        Kit.due("walk(0, 1)", x.walk(0, 1), 1);
        Kit.due("walk(0, 2)", x.walk(0, 2), NONE);
        Kit.due("walk(2, 0)", x.walk(2, 0), NONE);
        Kit.due("walk(2, 2)", x.walk(2, 2), NONE);
        for (int n : WRONG) {
            Kit.due("walk(" + n + ", 0)", x.walk(n, 0), NONE);
            Kit.due("walk(0, " + n + ")", x.walk(0, n), NONE);
        }
    }

    private void worths() {
        doc.says(Doc.TERMS, "WORTH of a MAN: the sum, over his HOUSES, of PRICE times 72 by EVERY, cut.");
        doc.says(26, "WORTH;");
        for (int every = 1; every <= 9; every++) {
            for (int price : new int[] {0, 1, 10, 998, 999}) {
                PaneRounds x = told("man m 0 0 10;house a f m 0 0 " + every + " price " + price + ";", 0);
                Kit.due("worth of " + price + " every " + every, x.worth(0), price * 72 / every);
            }
        }
        // 102 and 6 sevenths each: each is cut
        PaneRounds y = told("man m 0 0 10;man n 0 0 10;man o 0 0 10;house a f m 0 0 7;house b f m 0 0 7;house c f n 0 0 1 price 0;", 0);
        Kit.due("two", y.worth(0), 204);
        Kit.due("price 0", y.worth(1), 0);
        Kit.due("no houses", y.worth(2), 0);
        y.sell(0, 2);
        Kit.due("one is left", y.worth(0), 102);
        Kit.due("the other went", y.worth(2), 102);
        Kit.due("ten of the dearest", told("man m 0 0 10;" + houses(10, "f m 0 0 1 price 999"), 0).worth(0), 719280);
    }

    private void tours() {
        doc.says(Doc.TERMS, "TOUR of a MAN: WALK from home by all his HOUSES by street, then place, then number, and home.");
        doc.says(27, "TOUR;");
        PaneRounds x = told("man m 5 50 600;man n 0 0 600;house a f m 3 10 1;house b f m 1 20 1;house c f m 3 5 1;house d f m 9 0 1;house e f n 0 3 1;"
                + "house g f m 3 5 1 from 199 dog;", 0);
        Kit.due("m", x.tour(0), 70 + 35 + 0 + 5 + 70 + 90);
        Kit.due("n", x.tour(1), 6);
        // by street first, though the places fall; by place then, though the numbers fall
        Kit.due("street ahead of place", told("man m 0 0 10;house a f m 0 99 1;house b f m 1 0 1;house c f m 2 99 1;", 0).tour(0), 99 + 109 + 109 + 119);
        Kit.due("place ahead of number", told("man m 0 0 10;house a f m 0 9 1;house b f m 0 5 1;house c f m 0 7 1;", 0).tour(0), 18);
        Kit.due("no houses", told("man m 9 99 10;", 0).tour(0), 0);
        Kit.due("at home", told("man m 9 99 10;house a f m 9 99 1;", 0).tour(0), 0);
        x.sell(3, 1);
        Kit.due("m without d", x.tour(0), 70 + 35 + 0 + 5 + 60);
        Kit.due("n with d", x.tour(1), 3 + 93 + 90);
        x.days(200);
        Kit.due("days are no matter", x.tour(1), 186);
    }

    private void noSuchMan() {
        doc.says(26, "NONE: no such MAN.");
        doc.says(27, "NONE: no such MAN.");
        Kit.due("new: worth", new PaneRounds().worth(0), NONE);
        Kit.due("new: tour", new PaneRounds().tour(0), NONE);
        PaneRounds x = told("man m 0 0 10;man n 0 0 10;house a f m 0 1 1;", 0);
        Kit.due("worth(1)", x.worth(1), 0);
        Kit.due("tour(1)", x.tour(1), 0);
        Kit.due("worth(2)", x.worth(2), NONE);
        Kit.due("tour(2)", x.tour(2), NONE);
        Kit.due("worth(3)", x.worth(3), NONE);
        Kit.due("tour(3)", x.tour(3), NONE);
        for (int man : WRONG) {
            Kit.due("worth(" + man + ")", x.worth(man), NONE);
            Kit.due("tour(" + man + ")", x.tour(man), NONE);
        }
    }

    private static void swap(PaneRounds x, int loss, int sum, int... men) {
        Kit.due("swap(" + loss + ", 0)", x.swap(loss, 0), sum);
        for (int house = 0; house < men.length; house++) {
            Kit.due("swap(" + loss + ", " + (house + 1) + ")", x.swap(loss, house + 1), men[house]);
        }
        Kit.due("swap: none behind", x.swap(loss, men.length + 1), NONE);
    }

    private void swapsWithoutLoss() {
        doc.says(Doc.TERMS, "SWAP: each HOUSE to a MAN, so that no MAN's WORTH is less than now");
        PaneRounds x = told("man m 0 0 600;man n 0 99 600;house a f m 0 90 1;house b f n 0 10 1;", 0);
        swap(x, 0, 18 + 20, 1, 0);
        // the worths count, not how many: two of 36 for one of 72
        PaneRounds y = told("man m 0 0 600;man n 0 99 600;house a f m 0 90 1 price 1;house b f n 0 10 2 price 1;house c f n 0 11 2 price 1;", 0);
        swap(y, 0, 18 + 22, 1, 0, 0);
        // one more is worth something, but the other man loses it: all stays
        PaneRounds z = told("man m 0 0 600;man n 0 99 600;house a f m 0 90 1;", 0);
        swap(z, 0, 180, 0);
        // a house worth nothing may go
        swap(told("man m 0 0 600;man n 0 99 600;house a f m 0 90 1 price 0;", 0), 0, 18, 1);
        // three in a ring
        PaneRounds ring = told("man m 0 0 600;man n 4 0 600;man o 9 0 600;house a f m 4 0 1;house b f n 9 0 1;house c f o 0 0 1;", 0);
        swap(ring, 0, 0, 1, 2, 0);
        // by whose they are now: n must have two, m none
        ring.sell(0, 1);
        swap(ring, 0, 80, 1, 2, 1);
    }

    private void swapsByLoss() {
        doc.says(Doc.TERMS, "by more than LOSS (0 .. 9999), with the least sum of TOURS;");
        PaneRounds x = told("man m 0 0 600;man n 0 99 600;house a f m 0 90 1 price 11;house b f n 0 10 1 price 10;", 0);
        swap(x, 0, 180 + 178, 0, 1);
        swap(x, 71, 180 + 178, 0, 1);
        swap(x, 72, 38, 1, 0);
        swap(x, 9999, 38, 1, 0);
        swap(x, 71, 180 + 178, 0, 1);
        // one man loses all
        PaneRounds y = told("man m 0 50 600;man n 0 0 600;house a f m 0 50 1;house b f n 0 50 1;", 0);
        swap(y, 719, 100, 0, 1);
        swap(y, 720, 0, 0, 0);
        // 139 by 72 is 10008: more than may be lost; 138 by 72 is 9936
        swap(told("man m 0 50 600;man n 0 0 600;house a f n 0 50 1 price 139;", 0), 9999, 100, 1);
        swap(told("man m 0 50 600;man n 0 0 600;house a f n 0 50 1 price 138;", 0), 9999, 0, 0);
        swap(told("man m 0 50 600;man n 0 0 600;house a f n 0 50 1 price 138;", 0), 9935, 100, 1);
        swap(told("man m 0 50 600;man n 0 0 600;house a f n 0 50 1 price 138;", 0), 9936, 0, 0);
    }

    private void swapOfSeveral() {
        doc.says(Doc.TERMS, "of several the first by MEN of HOUSES 0, 1, ..");
        // both walk as much: house 0 goes to man 0, though it is with the other
        PaneRounds x = told("man m 0 0 600;man n 0 0 600;house a f n 0 10 1;house b f m 0 10 1;", 0);
        swap(x, 0, 40, 0, 1);
        swap(x, 720, 20, 0, 0);
        PaneRounds all = told("man m 0 0 600;man n 0 0 600;man o 0 0 600;" + houses(10, "f o 0 0 1 price 0"), 0);
        swap(all, 0, 0, 0, 0, 0, 0, 0, 0, 0, 0, 0, 0);
        // of equal sums the one with the least man for house 0, then for house 1
        PaneRounds y = told("man m 0 0 600;man n 0 0 600;man o 0 0 600;house a f o 0 0 1;house b f n 0 0 1;house c f m 0 0 1;house d f m 0 0 1;", 0);
        swap(y, 0, 0, 0, 0, 1, 2);
    }

    private void swapPieceByPiece() {
        doc.says(28, "SWAP, what 0: the sum of TOURS, 1 and on: the MAN of HOUSE what less 1. (Nothing is changed.)");
        PaneRounds x = told("man m 0 0 600;man n 0 99 600;house a f m 0 90 1;house b f n 0 10 1;", 0);
        swap(x, 0, 38, 1, 0);
        Kit.due("a is m's still", x.look(0, 1), 0);
        Kit.due("b is n's still", x.look(1, 1), 1);
        Kit.due("m's tour", x.tour(0), 180);
        Kit.due("n's tour", x.tour(1), 178);
        Kit.due("m's worth", x.worth(0), 720);
        x.sell(0, 1);
        // n has both, m has nothing to lose
        swap(x, 0, 178, 1, 1);
        swap(x, 720, 38, 1, 0);
        x.keep();
        x.sell(0, 0);
        swap(x, 0, 38, 1, 0);
        x.back();
        swap(x, 0, 178, 1, 1);
        swap(told("man m 0 0 600;", 0), 0, 0);
        swap(told("man m 0 0 600;" + houses(10, "f m 0 9 1"), 0), 9999, 18, 0, 0, 0, 0, 0, 0, 0, 0, 0, 0);
    }

    private void noSuchSwap() {
        doc.says(28, "NONE: no MEN, no such ones.");
        Kit.due("new", new PaneRounds().swap(0, 0), NONE);
        Kit.due("no men", told("wet 1;", 0).swap(0, 0), NONE);
        PaneRounds x = told("man m 0 0 600;house a f m 0 5 1;", 0);
        Kit.due("loss 9999", x.swap(9999, 0), 10);
        Kit.due("loss 10000", x.swap(10000, 0), NONE);
        Kit.due("what 1", x.swap(0, 1), 0);
        Kit.due("what 2", x.swap(0, 2), NONE);
        Kit.due("what 11", x.swap(0, 11), NONE);
        for (int n : WRONG) {
            Kit.due("loss " + n, x.swap(n, 0), NONE);
            Kit.due("what " + n, x.swap(0, n), NONE);
        }
    }

    private void sells() {
        doc.says(29, "A HOUSE goes to another MAN: true;");
        PaneRounds x = told("man m 0 0 10;man n 0 90 10;house a f m 0 90 1;house b f m 0 0 1;", 1);
        Kit.due("too far for m", x.wiped(0), 2);
        Kit.due("sold", x.sell(0, 1) ? 1 : 0, 1);
        Kit.due("his", x.look(0, 1), 1);
        Kit.due("the other isn't", x.look(1, 1), 0);
        x.days(1);
        Kit.due("n does it", x.wiped(1), 1);
        way(x, 1, 1, 0);
        Kit.due("what it owes goes with it", x.owed(1), 10);
        Kit.due("and back", x.sell(0, 0) ? 1 : 0, 1);
        Kit.due("m's again", x.look(0, 1), 0);
        Kit.due("no note by it", x.count(5), 0);
        Kit.tell(x, FRONT + "man m 0 0 10;man n 0 90 10;house a f m 0 90 1;");
        Kit.due("as a new text tells", x.look(0, 1), 0);
    }

    private void refusedSells() {
        doc.says(29, "false: no such ones, it is his.");
        Kit.due("new", new PaneRounds().sell(0, 0) ? 1 : 0, 0);
        PaneRounds x = told("man m 0 0 10;man n 0 0 10;house a f m 0 0 1;", 0);
        Kit.due("his", x.sell(0, 0) ? 1 : 0, 0);
        Kit.due("house 1", x.sell(1, 0) ? 1 : 0, 0);
        Kit.due("man 2", x.sell(0, 2) ? 1 : 0, 0);
        for (int n : WRONG) {
            Kit.due("house " + n, x.sell(n, 1) ? 1 : 0, 0);
            Kit.due("man " + n, x.sell(0, n) ? 1 : 0, 0);
        }
        Kit.due("m's still", x.look(0, 1), 0);
        Kit.due("sold", x.sell(0, 1) ? 1 : 0, 1);
        Kit.due("sold to him already", x.sell(0, 1) ? 1 : 0, 0);
    }

    private static int fillings(String tank, String tools, String front, int houses) {
        PaneRounds x = Kit.told(tank + tools + front + "man m 0 0 600;man n 0 0 600;" + houses(houses, "g m 0 0 1"));
        x.days(1);
        Kit.due("wiped", x.way(0, 0, 0), houses);
        Kit.due("the other man's", x.tanks(1, 0), 0);
        // what was asked of the front before is no matter
        x.missing(0, 0, true);
        return x.tanks(0, 0);
    }

    private void fillings() {
        doc.says(Doc.TERMS, "TANKS: of a MAN's HOUSES on a day: how many fillings of the tank PANES covered by POLES of these FRONTS' FEWEST take"
                + " (each PANE by the first SETTING that covers it).");
        doc.says(31, "TANKS of a MAN on a day;");
        String three = "front g 3 5 pane 0 1 pane 1 2 pane 2 3;";
        Kit.due("3 by 4 of 12", fillings("tank 12 4;", "pole p 9 0;", three, 1), 1);
        Kit.due("3 by 4 of 11", fillings("tank 11 4;", "pole p 9 0;", three, 1), 2);
        Kit.due("3 by 4 of 13", fillings("tank 13 4;", "pole p 9 0;", three, 1), 1);
        Kit.due("3 by 99 of 1", fillings("tank 1 99;", "pole p 9 0;", three, 1), 297);
        Kit.due("3 by 1 of 999", fillings("tank 999 1;", "pole p 9 0;", three, 1), 1);
        Kit.due("3 by 3 of 5", fillings("tank 5 3;", "pole p 9 0;", three, 1), 2);
        Kit.due("of all his houses together", fillings("tank 12 4;", "pole p 9 0;", three, 2), 2);
        Kit.due("together 18 of 9", fillings("tank 9 2;", "pole p 9 0;", three, 3), 2);
        Kit.due("ten houses", fillings("tank 1 99;", "pole p 9 0;", three, 10), 2970);
        Kit.due("by ladders", fillings("tank 1 1;", "ladder l 4;", three, 1), 0);
        Kit.due("no houses", fillings("tank 1 1;", "pole p 9 0;", three, 0), 0);
        Kit.due("no panes", fillings("tank 1 1;", "pole p 9 0;", "front g 1 1;", 1), 0);
        // panes that none reaches take nothing
        Kit.due("beyond the pole", fillings("tank 1 1;", "pole p 9 0;", "front g 1 24 pane 0 24 pane 0 1;", 1), 1);
        // the ladder reaches 5 to 11, the pole 1 to 7: the pane at 6 is the ladder's, as its setting is first
        String both = "front g 1 24 pane 0 6 pane 0 10 pane 0 3;";
        Kit.due("covered by both", fillings("tank 1 1;", "pole p 8 0;ladder l 11;", both, 1), 1);
        Kit.due("covered by the pole", fillings("tank 1 1;", "pole p 8 0;", both, 1), 2);
        // two settings of poles cover the pane between: once
        Kit.due("covered twice", fillings("tank 1 1;", "pole p 8 0;", "front g 6 5 pane 0 1 pane 2 1 pane 4 1 block 0;", 1), 3);
        // not held: the ladder can't stand on soft ground, so the pole does both
        Kit.due("soft ground", fillings("tank 1 1;", "ladder l 4;pole p 8 0;", "front g 1 5 pane 0 1 pane 0 4 soft 0;", 1), 2);
    }

    private void noSuchFillings() {
        doc.says(31, "NONE: no such ones, a day that wasn't done; 0 without a tank.");
        Kit.due("new", new PaneRounds().tanks(0, 0), NONE);
        for (String tank : new String[] {"", "tank 1 1;"}) {
            PaneRounds x = Kit.told(tank + "pole p 9 0;front f 1 1 pane 0 1;man m 0 0 100;house a f m 0 0 1;");
            Kit.due("day 0 wasn't done", x.tanks(0, 0), NONE);
            x.days(2);
            Kit.due("day 0", x.tanks(0, 0), tank.isEmpty() ? 0 : 1);
            Kit.due("day 1", x.tanks(0, 1), 0);
            Kit.due("day 2", x.tanks(0, 2), NONE);
            Kit.due("man 1", x.tanks(1, 0), NONE);
            Kit.due("man 3", x.tanks(3, 0), NONE);
            for (int n : WRONG) {
                Kit.due("man " + n, x.tanks(n, 0), NONE);
                Kit.due("day " + n, x.tanks(0, n), NONE);
            }
            x.days(198);
            Kit.due("day 199", x.tanks(0, 199), 0);
            Kit.due("day 200", x.tanks(0, 200), NONE);
        }
    }
}
