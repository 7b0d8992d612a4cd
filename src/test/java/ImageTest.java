/** Promises 32 to 34: keep, back, count. */
public final class ImageTest {
    private static final int NONE = PaneRounds.NONE;
    private static final String TEXT = "ladder l 9;ladder k 9;pole p 10 0;front f 1 1 pane 0 1;man m 0 0 600;man n 0 0 600;"
            + "house a f m 0 0 1 home 2 not 0;house b f n 0 0 1 dog;complain waits>2;trust owes<100;wet 3;wet 4;tank 8 9;";

    public static void main(String[] args) {
        counts();
        images();
        Kit.end();
    }

    private static void counts() {
        PaneRounds x = Kit.told(TEXT);
        x.days(9);
        x.pay(0, 0, 1);
        x.strike(0);
        int[] want = {2, 1, 1, 2, 2, 2, 9, 6, 2, 8, 9, 1 + 7, 1};
        for (int what = 0; what < want.length; what++) {
            Kit.due("count(" + what + ")", x.count(what), want[what]);
        }
        Kit.due("count(13)", x.count(13), NONE);
        Kit.due("count(-1)", x.count(-1), NONE);
    }

    /** All that an image must bring back, as one number for each answer. */
    private static int[] seen(PaneRounds x) {
        int[] all = new int[200];
        int n = 0;
        for (int house = 0; house < 2; house++) {
            for (int what = 0; what < 7; what++) {
                all[n++] = x.now(house, what);
            }
            all[n++] = x.look(house, 1);
            all[n++] = x.balance(house, -1);
            all[n++] = x.balance(house, 1);
            all[n++] = x.oldest(house, -1);
        }
        for (int day = 0; day < 25; day++) {
            all[n++] = x.wiped(day);
            all[n++] = x.way(0, day, 0);
            all[n++] = x.way(1, day, 3);
        }
        for (int what = 5; what < 13; what++) {
            all[n++] = x.count(what);
        }
        all[n++] = x.worth(0);
        all[n++] = x.tour(1);
        all[n++] = x.swap(0, 1);
        return all;
    }

    private static void same(String when, int[] got, int[] want) {
        for (int i = 0; i < want.length; i++) {
            Kit.due(when + ", answer " + i, got[i], want[i]);
        }
    }

    private static void images() {
        PaneRounds x = Kit.told(TEXT);
        Kit.due("none", x.back(), NONE);
        x.days(9);
        x.pay(0, 0, 7);
        x.sell(0, 1);
        Kit.due("keep", x.keep(), 9);
        int[] first = seen(x);
        for (int round = 0; round < 2; round++) {
            x.sell(0, 0);
            x.sell(1, 0);
            x.strike(0);
            x.pay(1, 0, 3 + round);
            x.days(10 + round);
            Kit.due("gone on", x.count(6), 19 + round);
            Kit.due("back", x.back(), 9);
            same("back " + round, seen(x), first);
        }
        x.days(2);
        x.pay(0, 0, 1);
        int[] second = seen(x);
        Kit.due("keep in its place", x.keep(), 11);
        x.days(5);
        Kit.due("back to it", x.back(), 11);
        same("back to the second", seen(x), second);
        Kit.due("goes on", x.days(3), 14);
        Kit.tell(x, "tank 1;");
        Kit.due("a fault leaves it", x.back(), 11);
        Kit.tell(x, TEXT);
        Kit.due("a text takes it", x.back(), NONE);
        Kit.due("day 0", x.count(6), 0);
        Kit.due("kept anew", x.keep(), 0);
        x.days(200);
        Kit.due("back to 0", x.back(), 0);
        Kit.due("a fresh object keeps, too", new PaneRounds().keep(), 0);
        same("as new", seen(x), seen(Kit.told(TEXT)));
    }
}
