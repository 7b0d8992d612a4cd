/** Edges of the rules by which one complains or is trusted: who is asked when, and what an E is worth. */
final class EdgeRules {
    private static final String HEAD = "front f 1 1;man m 0 0 100;";
    private final Doc doc;

    EdgeRules(Doc doc) {
        this.doc = doc;
    }

    void run() {
        whoComplains();
        spells();
        whoIsTrusted();
        namesOfFacts();
        truths();
        bothSides();
        cutQuotients();
        bindings();
        errorsOfQuotients();
        errorsBeyondTheLimit();
        wrapsOfLongs();
        deepRules();
    }

    private static PaneRounds told(String lines, int days) {
        PaneRounds x = Kit.told(HEAD + lines);
        x.days(days);
        return x;
    }

    /** Asks complain's rule as a wet day 0 ends, and trust's as he begins on day 0. */
    private static void holds(String rule, boolean want) {
        Kit.due("complains by " + rule, told("house a f m 0 0 1;wet 0;complain " + rule + ";", 1).now(0, 3), want ? 1 : 0);
        Kit.due("trusted by " + rule, told("house a f m 0 0 1;trust " + rule + ";", 1).wiped(0), want ? 1 : 0);
    }

    /** A value that isn't 0 would hold, and 0 would hold by not. */
    private static void error(String rule) {
        holds(rule, false);
        holds("not (" + rule + ")", false);
        holds("(" + rule + ") or 1", false);
        holds("1 or (" + rule + ")", false);
    }

    private void whoComplains() {
        doc.says(Doc.TERMS, "COMPLAINS: as a day ends, a HOUSE that is DUE by then for which complain's E isn't 0 (not with an ERROR; none without):");
        // due on the day itself, not ahead of it
        PaneRounds x = told("house a f m 0 0 1 from 3;wet 0 to 9;complain 1;", 3);
        Kit.due("ahead of when it is due", x.now(0, 3), 0);
        Kit.due("none lasts", x.now(0, 4), 0);
        x.days(1);
        Kit.due("as the day ends on which it is due", x.now(0, 3), 1);
        Kit.due("it lasts", x.now(0, 4), 1);
        // wiped on the day: it isn't due any more as the day ends
        Kit.due("wiped that day", told("house a f m 0 0 1;complain 1;", 7).count(12), 0);
        // left out for any reason
        PaneRounds y = told("house a f m 0 0 1 dog;house b f m 0 0 1 not 0;house c f m 0 90 1;house d f m 0 0 1 price 0;complain 1;trust price;", 1);
        for (int house = 0; house < 4; house++) {
            Kit.due("left out: " + house, y.now(house, 3), 1);
        }
        Kit.due("all", y.count(12), 4);
        Kit.due("E is 0", told("house a f m 0 0 1;wet 0 to 9;complain 0;", 9).count(12), 0);
        Kit.due("E is below 0", told("house a f m 0 0 1;wet 0 to 9;complain 0-1;", 9).count(12), 1);
        Kit.due("an ERROR", told("house a f m 0 0 1;wet 0 to 9;complain 1/0;", 9).count(12), 0);
        PaneRounds z = told("house a f m 0 0 1;wet 0 to 9;complain 1/(day-1);", 2);
        Kit.due("on day 0 only", z.now(0, 3), 1);
        PaneRounds w = told("house a f m 0 0 1;wet 0 to 9;complain 1/day;", 1);
        Kit.due("an ERROR on day 0", w.now(0, 3), 0);
        w.days(1);
        Kit.due("none on day 1", w.now(0, 3), 1);
        Kit.due("without complain", told("house a f m 0 0 1;wet 0 to 199;", 200).count(12), 0);
        Kit.due("owes as the day ends", told("house a f m 0 0 1 from 1;house b f m 0 0 1 price 5;wet 7;complain owes=5;", 8).now(1, 3), 1);
    }

    private void spells() {
        doc.says(Doc.TERMS, "the first day of each spell counts (it lasts till it is WIPED; wet days, too).");
        PaneRounds x = told("house a f m 0 0 1;wet 0 to 2;wet 10 to 11;wet 20;complain 1;", 1);
        spell(x, 1, 1);
        x.days(2);
        spell(x, 1, 1);
        x.days(1);
        spell(x, 1, 0);
        // wiped on 3: due on 10, and that is wet
        x.days(6);
        spell(x, 1, 0);
        x.days(1);
        spell(x, 2, 1);
        x.days(2);
        spell(x, 2, 0);
        // wiped on 12, 19, ..: rain on 20 is nothing to it
        x.days(187);
        spell(x, 2, 0);
        // it lasts, though its E is 0 behind the first day; that E isn't 0 again is no new spell
        PaneRounds y = told("house a f m 0 0 1 dog home 5;complain day=1 or day=3;", 3);
        spell(y, 1, 1);
        y.days(2);
        spell(y, 1, 1);
        y.days(1);
        spell(y, 1, 0);
        // it lasts behind an ERROR, too
        PaneRounds z = told("house a f m 0 0 1 dog;complain 1/(1-day);", 5);
        spell(z, 1, 1);
        // left out on dry days, it lasts over all
        spell(told("house a f m 0 0 1 dog;complain waits=199;", 199), 0, 0);
        spell(told("house a f m 0 0 1 dog;complain waits=199;", 200), 1, 1);
        // a spell in each week but the last one: due on 1, 8, .., wiped the day behind
        spell(told("house a f m 0 0 1 from 1 not 1;complain 1;", 200), 1, 0);
    }

    private static void spell(PaneRounds x, int complaints, int lasts) {
        Kit.due("complaints ahead of day " + x.count(6), x.now(0, 3), complaints);
        Kit.due("lasts ahead of day " + x.count(6), x.now(0, 4), lasts);
    }

    private void whoIsTrusted() {
        doc.says(Doc.TERMS, "TRUSTED: trust's E isn't 0 (all are without; with an ERROR it isn't).");
        Kit.due("without", told("house a f m 0 0 1;", 1).wiped(0), 1);
        Kit.due("E is 0", told("house a f m 0 0 1;trust 0;", 1).wiped(0), 0);
        Kit.due("E is 1", told("house a f m 0 0 1;trust 1;", 1).wiped(0), 1);
        Kit.due("E is below 0", told("house a f m 0 0 1;trust 0-9999;", 1).wiped(0), 1);
        PaneRounds x = told("house a f m 0 0 1;house b f m 0 0 1 price 0;trust 10/price;", 200);
        Kit.due("an ERROR for one only", x.wiped(0), 1);
        Kit.due("it has letters", x.now(1, 2), 200);
        Kit.due("the other has none", x.now(0, 2), 0);
        Kit.due("complain's E is no matter", told("house a f m 0 0 1;complain 0;", 1).wiped(0), 1);
    }

    private void namesOfFacts() {
        doc.says(Doc.TERMS, "NAMES: waits: the day less when it is DUE (below 0 too); owes; times: how often it was WIPED; price; every; day.");
        doc.says(Doc.TERMS, "owes in E: BALANCE by all NOTES.");
        PaneRounds x = told("house a f m 0 0 3 price 37 from 2;wet 0 to 199;"
                + "complain day=5 and waits=3 and price=37 and every=3 and times=0 and owes=0;", 5);
        Kit.due("on day 4", x.now(0, 3), 0);
        x.days(1);
        Kit.due("on day 5", x.now(0, 3), 1);
        Kit.due("waits 0 on the day itself", told("house a f m 0 0 1 from 7;trust waits=0;", 8).wiped(7), 1);
        Kit.due("waits 1 behind it", told("house a f m 0 0 1;trust waits=1;", 2).wiped(1), 1);
        Kit.due("day 199", told("house a f m 0 0 1;trust day=199;", 200).wiped(199), 1);
        Kit.due("price 10, every 9", told("house a f m 0 0 9;trust price*every=90;", 1).wiped(0), 1);
        PaneRounds y = told("house a f m 0 0 1 price 9;wet 1 to 199;complain times=1 and owes=9;", 8);
        Kit.due("wiped once, owes once", y.now(0, 3), 1);
        // by all notes, below 0, too
        PaneRounds z = Kit.told(HEAD + "house a f m 0 0 1 price 9;house b f m 0 0 1 price 9;trust owes=0-11;");
        z.pay(1, 0, 30);
        z.pay(0, 199, 11);
        z.days(1);
        Kit.due("paid 11 ahead", z.wiped(0), 1);
        z.pay(0, 0, 9);
        z.pay(0, 0, 5);
        z.strike(3);
        z.days(7);
        Kit.due("11 ahead again, but for what is struck", z.wiped(7), 1);
        z.strike(4);
        z.days(7);
        Kit.due("9 more, 5 ahead by a strike that is struck", z.wiped(14), 0);
        // what was paid at once isn't owed
        Kit.due("paid at once", told("house a f m 0 0 1 home 0;trust owes=0;", 15).wiped(14), 1);
    }

    private void truths() {
        doc.says(Doc.TERMS, "VALUES are longs; comparisons, and, or, not are 1 or 0 (what isn't 0 is as 1,");
        String[] signs = {"<", "<=", "=", "<>", ">=", ">"};
        int[] left = {1, 2, 3};
        for (int i = 0; i < signs.length; i++) {
            for (int a : left) {
                boolean[] want = {a < 2, a <= 2, a == 2, a != 2, a >= 2, a > 2};
                holds(a + signs[i] + "2", want[i]);
                holds("(" + a + signs[i] + "2)=" + (want[i] ? 1 : 0), true);
                holds("(0-" + a + ")" + signs[i] + "(0-2)", new boolean[] {a > 2, a >= 2, a == 2, a != 2, a <= 2, a < 2}[i]);
            }
        }
        for (int a : new int[] {0, 1, 2}) {
            for (int b : new int[] {0, 1, 3}) {
                holds("(" + a + " and " + b + ")=" + (a != 0 && b != 0 ? 1 : 0), true);
                holds("(" + a + " or " + b + ")=" + (a != 0 || b != 0 ? 1 : 0), true);
                holds("((0-" + a + ") and (0-" + b + "))=" + (a != 0 && b != 0 ? 1 : 0), true);
                holds("((0-" + a + ") or (0-" + b + "))=" + (a != 0 || b != 0 ? 1 : 0), true);
            }
            holds("(not " + a + ")=" + (a == 0 ? 1 : 0), true);
            holds("(not (0-" + a + "))=" + (a == 0 ? 1 : 0), true);
        }
        holds("9999", true);
        holds("0", false);
        // beyond 32 bits: 2 to the 32 isn't 0, 2 to the 31 isn't below 0
        holds("4096*4096*256", true);
        holds("4096*4096*128>0", true);
        holds("0-4096*4096*256=0", false);
    }

    private void bothSides() {
        doc.says(Doc.TERMS, "both sides are worked out),");
        error("1 or 1/0");
        error("1/0 or 1");
        error("0 and 1/0");
        error("1/0 and 0");
        error("0*(1/0)");
        error("1/0=1/0");
    }

    private void cutQuotients() {
        doc.says(Doc.TERMS, "/ is cut towards 0;");
        holds("7/2=3", true);
        holds("(0-7)/2=0-3", true);
        holds("7/(0-2)=0-3", true);
        holds("(0-7)/(0-2)=3", true);
        holds("1/2", false);
        holds("(0-1)/2", false);
        holds("0/5", false);
        holds("9999/9999=1", true);
        holds("9998/9999=0", true);
        holds("1000*1000*1000*1000/(0-1)=0-1000*1000*1000*1000", true);
    }

    private void bindings() {
        // the grammar's E, A, B, C, S, T, P: what binds closer, and from the left
        holds("1+2*3=7", true);
        holds("(1+2)*3=9", true);
        holds("10-4-3=3", true);
        holds("10-(4-3)=9", true);
        holds("100/5/2=10", true);
        holds("100/(5/2)=50", true);
        holds("100/5*2=40", true);
        holds("7/2*2=6", true);
        holds("7*3/2=10", true);
        holds("7*(3/2)=7", true);
        holds("10-4+3=9", true);
        holds("10+4-3=11", true);
        holds("2*3+4*5-6/2=23", true);
        holds("1 or 0 and 0", true);
        holds("(1 or 0) and 0", false);
        holds("0 and 0 or 1", true);
        holds("not 0 and 0", false);
        holds("not (0 and 0)", true);
        holds("not 1 or 1", true);
        holds("not (1 or 1)", false);
        holds("not 1=2", true);
        holds("(not 1)=2", false);
        holds("not 0+1", false);
        holds("(not 0)+1=2", true);
        holds("(not not 5)=1", true);
        holds("1 and not 0", true);
        holds("1 and not 1", false);
        holds("0 and not 0", false);
        holds("0 or not 0", true);
        holds("0 or not 1", false);
        holds("1 or not 1 and not 1", true);
        holds("not 1 or not 1 and not 0", false);
        holds("(0 or not 1) or 2*3=6 and not 5<4", true);
        holds("1+1=2 and 2<3", true);
        holds("3-1<1+1", false);
    }

    private void errorsOfQuotients() {
        doc.says(Doc.TERMS, "ERROR: / by 0,");
        error("1/0");
        error("0/0");
        error("(0-1)/0");
        error("1/(day-day)");
        error("1/(1/2)");
        error("1/(2<1)");
        error("1/(not 1)");
        error("5+1/0-5");
        holds("1/1", true);
        holds("0/1", false);
    }

    private void errorsBeyondTheLimit() {
        doc.says(Doc.TERMS, "a value above 10 to the 12 or below 0 by more than that.");
        String limit = "1000*1000*1000*1000";
        holds(limit + ">" + limit + "-1", true);
        error(limit + "+1");
        holds("0-" + limit + "<0", true);
        error("0-" + limit + "-1");
        holds("(0-1000)*1000*1000*1000<0", true);
        error("1000*1000*1000*1001");
        error("(0-1000)*1000*1000*1001");
        error(limit + "+1-1");
        error("1+" + limit);
        error("(" + limit + "+1)*0");
        error("(" + limit + "+1)/2");
        error("1<" + limit + "+" + limit);
        holds("9999*9999*9999>9999*9999", true);
        error("9999*9999*9999*2");
        holds("1+(" + limit + "-1)", true);
    }

    private void wrapsOfLongs() {
        // 2 to the 32 by itself is 0 in 64 bits, 2 to the 31 by 2 to the 33, too
        String half = "(4096*4096*256)";
        error(half + "*" + half);
        error("(0-" + half + ")*" + half);
        error("(0-" + half + ")*(0-" + half + ")");
        error(half + "*" + half + "+5");
        error("(4096*4096*128)*(4096*4096*512)");
        String limit = "1000*1000*1000*1000";
        error(limit + "*(" + limit + ")");
        error("(0-" + limit + ")*(" + limit + ")");
        error("(0-" + limit + ")*(0-" + limit + ")");
        error(limit + "*2");
        error("2*(" + limit + ")");
        holds(limit + "*1>0", true);
        holds(limit + "*0=0", true);
        holds("0*(" + limit + ")=0", true);
        holds(limit + "*(0-1)<0", true);
        holds(limit + "+0>0", true);
    }

    private void deepRules() {
        // 64 knots: each of them counts
        holds("1" + "+1".repeat(31), true);
        holds("31=1" + "+1".repeat(30), true);
        holds("30=1" + "+1".repeat(30), false);
        holds("not ".repeat(62) + "1", true);
        holds("not ".repeat(63) + "1", false);
        holds("((((((((1-1))))))))", false);
        holds("((((((((1))))))))=1", true);
        // all values wait till the last sign
        holds("(2*(2*(2*(2*(2*(2*(2*(2*2))))))))=512", true);
        holds("0=1 or 0=2 or 1*(2+3*(4-5*(6-7)))=29", true);
        holds("0=1 or 0=2 or 1*(2+3*(4-5*(6-7)))=28", false);
        // 31 and 33 knots
        PaneRounds x = told("house a f m 0 0 1;wet 0;complain 1" + "+1".repeat(15) + ";trust 1" + "-1".repeat(14) + "-0/2;", 2);
        Kit.due("both rules: complaints", x.now(0, 3), 1);
        Kit.due("both rules: trusted", x.wiped(1), 1);
    }
}
