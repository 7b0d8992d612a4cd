/** Promises 21 to 25: pay, strike, balance, oldest, owed. */
public final class MoneyTest {
    private static final int NONE = PaneRounds.NONE;
    private static final int NO_SUCH = Integer.MIN_VALUE;
    private static final String START = "pole p 10 0;front f 1 1 pane 0 1;man m 0 0 600;man n 0 0 600;";

    public static void main(String[] args) {
        notes();
        strikes();
        oldestWipes();
        oweing();
        Kit.end();
    }

    private static void notes() {
        PaneRounds x = Kit.told(START + "house a f m 0 0 1;house b f m 0 0 1;");
        x.days(1);
        Kit.due("pay", x.pay(0, 0, 4), 0);
        Kit.due("pay ahead", x.pay(0, 199, 9999), 1);
        Kit.due("pay nothing", x.pay(1, 5, 0), 2);
        Kit.due("no house", x.pay(2, 0, 1), NONE);
        Kit.due("house -1", x.pay(-1, 0, 1), NONE);
        Kit.due("day -1", x.pay(0, -1, 1), NONE);
        Kit.due("day 200", x.pay(0, 200, 1), NONE);
        Kit.due("sum -1", x.pay(0, 0, -1), NONE);
        Kit.due("sum 10000", x.pay(0, 0, 10000), NONE);
        Kit.due("three", x.count(5), 3);
        Kit.due("by 0", x.balance(0, 0), 10);
        Kit.due("by 1", x.balance(0, 1), 6);
        Kit.due("by 2", x.balance(0, 2), 6 - 9999);
        Kit.due("by all", x.balance(0, -1), 6 - 9999);
        Kit.due("b by all", x.balance(1, 3), 10);
        Kit.due("by 4", x.balance(0, 4), NO_SUCH);
        Kit.due("by -2", x.balance(0, -2), NO_SUCH);
        Kit.due("house 2", x.balance(2, 0), NO_SUCH);
        Kit.due("house -1", x.balance(-1, 0), NO_SUCH);
        Kit.due("strike none", x.strike(3), NONE);
        Kit.due("strike -1", x.strike(-1), NONE);
        for (int i = 3; i < 60; i++) {
            Kit.due("note " + i, i % 2 == 0 ? x.pay(1, 0, 1) : x.strike(2), i);
        }
        Kit.due("pay at 60", x.pay(0, 0, 1), NONE);
        Kit.due("strike at 60", x.strike(0), NONE);
        Kit.due("60", x.count(5), 60);
        Kit.due("b paid 28", x.balance(1, 60), 10 - 28);
        Kit.due("by 61", x.balance(1, 61), NO_SUCH);
    }

    private static void strikes() {
        PaneRounds x = Kit.told(START + "house a f m 0 0 1;");
        x.pay(0, 0, 5);
        Kit.due("strike", x.strike(0), 1);
        Kit.due("strike the strike", x.strike(1), 2);
        Kit.due("strike that", x.strike(2), 3);
        Kit.due("strike it again", x.strike(0), 4);
        Kit.due("strike the last", x.strike(4), 5);
        Kit.due("strike the first strike of the strike twice", x.strike(2), 6);
        int[] want = {0, -5, 0, -5, 0, 0, 0, 0};
        for (int n = 0; n < want.length; n++) {
            Kit.due("by " + n, x.balance(0, n), want[n]);
        }
        x.strike(1);
        Kit.due("struck once more", x.balance(0, -1), -5);
    }

    private static void oldestWipes() {
        PaneRounds x = Kit.told(START + "house a f m 0 0 1 price 6;house b f m 0 0 1 price 0;house c f m 0 0 1 price 6 home 1;wet 0;");
        Kit.due("not wiped", x.oldest(0, -1), NONE);
        x.days(16);
        Kit.due("on 1", x.oldest(0, -1), 1);
        x.pay(0, 0, 5);
        Kit.due("5 doesn't reach", x.oldest(0, -1), 1);
        x.pay(0, 0, 1);
        Kit.due("6 does", x.oldest(0, -1), 8);
        x.pay(0, 0, 11);
        Kit.due("17 reaches two", x.oldest(0, -1), 15);
        x.pay(0, 0, 1);
        Kit.due("18 reaches all", x.oldest(0, -1), NONE);
        x.strike(1);
        Kit.due("17 again", x.oldest(0, -1), 15);
        Kit.due("by 0", x.oldest(0, 0), 1);
        Kit.due("by 2", x.oldest(0, 2), 8);
        Kit.due("by 4", x.oldest(0, 4), NONE);
        Kit.due("by 5", x.oldest(0, 5), 15);
        Kit.due("by 6", x.oldest(0, 6), -2);
        Kit.due("by -2", x.oldest(0, -2), -2);
        Kit.due("house 3", x.oldest(3, 0), -2);
        Kit.due("house -1", x.oldest(-1, 0), -2);
        Kit.due("none of price 0", x.oldest(1, -1), NONE);
        Kit.due("paid at once", x.oldest(2, -1), NONE);
        PaneRounds y = Kit.told(START + "house a f m 0 0 1 price 1;");
        y.days(8);
        Kit.due("price 1", y.oldest(0, -1), 0);
        y.pay(0, 0, 1);
        Kit.due("price 1 paid", y.oldest(0, -1), 7);
    }

    private static void oweing() {
        PaneRounds x = Kit.told(START + "house a f m 0 0 1;house b f m 0 0 1;house c f n 0 0 1;");
        x.days(8);
        x.pay(1, 0, 100);
        Kit.due("b's doesn't help", x.owed(0), 20);
        Kit.due("n's", x.owed(1), 20);
        Kit.due("no man", x.owed(2), NONE);
        Kit.due("man -1", x.owed(-1), NONE);
        x.sell(0, 1);
        Kit.due("sold with what it owes", x.owed(1), 40);
        Kit.due("only b", x.owed(0), 0);
        x.strike(0);
        Kit.due("b owes", x.owed(0), 20);
        // trusted below 15: what is paid counts at once, what is struck doesn't
        PaneRounds y = Kit.told(START + "house a f m 0 0 1;trust owes<15;");
        y.days(15);
        Kit.due("wiped twice", y.now(0, 1), 2);
        Kit.due("a letter", y.now(0, 2), 1);
        y.pay(0, 0, 6);
        y.days(1);
        Kit.due("trusted", y.now(0, 1), 3);
        y.strike(0);
        y.days(10);
        Kit.due("not trusted", y.now(0, 1), 3);
        Kit.due("letters", y.now(0, 2), 1 + 4);
    }
}
