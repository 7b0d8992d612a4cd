/** Edges of what may be told: how many, how much, how often, and which fault it is where. */
final class EdgeFaults {
    private static final String HEAD = "front f 3 5;man m 0 0 10;";
    private static final String HOUSE = HEAD + "house h f m 0 0 1";
    private final Doc doc;

    EdgeFaults(Doc doc) {
        this.doc = doc;
    }

    void run() {
        ladders();
        poles();
        fronts();
        panes();
        grounds();
        men();
        houses();
        houseParts();
        wetDays();
        tank();
        numberedAsTheyCome();
        firstAlongTheText();
        noToken();
        tooMuch();
        openings();
        knots();
        toldAlready();
        untold();
    }

    /** The sign # is told at its least and most, and once beyond each. */
    private static void bound(String line, int least, int most) {
        int lines = line.split(";").length;
        Kit.fine(line.replace("#", "" + least), lines);
        Kit.fine(line.replace("#", "" + most), lines);
        if (least > 0) {
            Kit.faultyAt(line.replace("#", "^" + (least - 1)), 2);
            Kit.faultyAt(line.replace("#", "^0"), 2);
        }
        Kit.faultyAt(line.replace("#", "^" + (most + 1)), 2);
        Kit.faultyAt(line.replace("#", "^99999"), 2);
    }

    /** So many lines may be told, and the word of the next one is too much. */
    private static void most(String head, String line, int most) {
        StringBuilder said = new StringBuilder(head);
        for (int i = 0; i < most; i++) {
            said.append(line.replace("#", "" + (char) ('a' + i)));
        }
        Kit.fine(said.toString(), said.toString().split(";").length);
        Kit.faultyAt(said + "^" + line.replace("#", "z"), 2);
        Kit.faultyAt(said + "^" + line.substring(0, line.indexOf(' ')), 2);
    }

    private void ladders() {
        doc.says(Doc.TERMS, "LADDERS, at most 4: a LENGTH 4 .. 30 (feet).");
        most("pole p 4 0;pole q 4 0;pole r 4 0;", "ladder # 4;", 4);
        bound("ladder a #;", 4, 30);
    }

    private void poles() {
        doc.says(Doc.TERMS, "POLES, at most 3: a LENGTH 4 .. 40, a BEND 0 .. 9.");
        most("ladder w 4;ladder x 4;ladder y 4;ladder v 4;", "pole # 4 0;", 3);
        bound("pole a # 0;", 4, 40);
        bound("pole a 4 #;", 0, 9);
    }

    private void fronts() {
        doc.says(Doc.TERMS, "FRONTS, at most 5: wide 1 .. 12, high 1 .. 24;");
        most("", "front # 1 1;", 5);
        bound("front f # 1;", 1, 12);
        bound("front f 1 #;", 1, 24);
    }

    private void panes() {
        doc.says(Doc.TERMS, "PANES, at most 12, numbered as they come: a column 0 .. wide less 1, a height 1 .. high (no two at one place);");
        StringBuilder twelve = new StringBuilder("front f 12 1");
        for (int i = 11; i >= 0; i--) {
            twelve.append(" pane ").append(i).append(" 1");
        }
        PaneRounds x = Kit.told(twelve + ";");
        Kit.due("twelve", x.front(0, 2), 12);
        for (int i = 0; i < 12; i++) {
            Kit.due("pane " + i + " as it came", x.pane(0, i, 0), 11 - i);
        }
        Kit.fine(twelve + ";front g 1 2 pane 0 1 pane 0 2;", 2);
        Kit.fine(twelve + " block 1 soft 2;", 1);
        Kit.faultyAt(twelve + " ^pane 0 1;", 2);
        Kit.faultyAt(twelve + " soft 0 ^pane", 2);
        for (int wide = 1; wide <= 12; wide += 11) {
            bound("front f " + wide + " 5 pane # 1;", 0, wide - 1);
            bound("front f " + wide + " 5 pane 0 5 pane # 1;", 0, wide - 1);
        }
        for (int high = 1; high <= 24; high += 23) {
            bound("front f 1 " + high + " pane 0 #;", 1, high);
        }
        Kit.fine("front f 2 2 pane 0 1 pane 1 1 pane 0 2 pane 1 2;", 1);
        Kit.faultyAt("front f 2 2 pane 0 1 pane 1 1 pane 0 2 pane 0 ^1;", 3);
        Kit.faultyAt("front f 2 2 pane 1 2 block 0 pane 1 ^02;", 3);
    }

    private void grounds() {
        doc.says(Doc.TERMS, "columns with a BLOCK, with SOFT ground (each once).");
        for (String word : new String[] {"block", "soft"}) {
            bound("front f 1 1 " + word + " #;", 0, 0);
            bound("front f 12 1 " + word + " #;", 0, 11);
            Kit.faultyAt("front f 12 1 " + word + " 11 " + word + " 0 " + word + " ^11;", 3);
            Kit.faultyAt("front f 12 1 " + word + " 0 pane 0 1 " + word + " ^0;", 3);
        }
        Kit.fine("front f 12 1 block 3 soft 3;", 1);
        Kit.fine("front f 12 1 block 3;front g 12 1 block 3;", 2);
        PaneRounds x = Kit.told("front f 1 1 block 0 soft 0;");
        Kit.due("blocked", x.front(0, 3), 1);
        Kit.due("soft", x.front(0, 4), 1);
    }

    private void men() {
        doc.says(Doc.TERMS, "MEN, at most 3: a home (street 0 .. 9, place 0 .. 99), MINUTES a day 10 .. 600.");
        most("", "man # 0 0 10;", 3);
        bound("man m # 0 10;", 0, 9);
        bound("man m 0 # 10;", 0, 99);
        bound("man m 0 0 #;", 10, 600);
    }

    private void houses() {
        doc.says(Doc.TERMS, "HOUSES, at most 10: a FRONT, a MAN, a street 0 .. 9, a place 0 .. 99, EVERY so many weeks 1 .. 9;");
        most(HEAD, "house # f m 0 0 1;", 10);
        bound(HEAD + "house h f m # 0 1;", 0, 9);
        bound(HEAD + "house h f m 0 # 1;", 0, 99);
        bound(HEAD + "house h f m 0 0 #;", 1, 9);
    }

    private void houseParts() {
        doc.says(Doc.TERMS, "not: a weekday 0 .. 6 on which they won't have it (each once); PRICE 0 .. 999 (10); a DOG;"
                + " from: the day 0 .. 199 on which it is first DUE (0); home: a weekday on which somebody opens (each once).");
        bound(HOUSE + " not #;", 0, 6);
        bound(HOUSE + " home #;", 0, 6);
        bound(HOUSE + " price #;", 0, 999);
        bound(HOUSE + " from #;", 0, 199);
        for (String word : new String[] {"not", "home"}) {
            StringBuilder all = new StringBuilder(HOUSE);
            for (int day = 6; day >= 0; day--) {
                all.append(' ').append(word).append(' ').append(day);
            }
            PaneRounds x = Kit.told(all + ";");
            Kit.due("each day: " + word, x.look(0, word.equals("not") ? 5 : 8), 127);
            Kit.due("each day: not " + word, x.look(0, word.equals("not") ? 8 : 5), 0);
            Kit.faultyAt(all + " " + word + " ^0;", 3);
            Kit.faultyAt(all + " " + word + " ^6;", 3);
            Kit.faultyAt(all + " " + word + " ^7;", 2);
        }
        PaneRounds x = Kit.told(HOUSE + ";");
        Kit.due("price", x.look(0, 6), 10);
        Kit.due("no dog", x.look(0, 7), 0);
        Kit.due("due", x.now(0, 0), 0);
        PaneRounds y = Kit.told(HOUSE + " price 0 from 199 dog;");
        Kit.due("price 0", y.look(0, 6), 0);
        Kit.due("a dog", y.look(0, 7), 1);
        Kit.due("due on the last day", y.now(0, 0), 199);
    }

    private void wetDays() {
        doc.says(Doc.TERMS, "wet: days 0 .. 199 (from one to another); the same again is as once.");
        bound("wet #;", 0, 199);
        bound("wet 0 to #;", 0, 199);
        bound("wet 7 to #;", 7, 199);
        bound("wet 199 to #;", 199, 199);
        Kit.faultyAt("wet ^200 to 200;", 2);
        Kit.due("one", Kit.told("wet 5 to 5;").count(8), 1);
        Kit.due("all", Kit.told("wet 0 to 199;").count(8), 200);
        PaneRounds x = Kit.told("wet 5 to 8;wet 7;wet 7;wet 8 to 10;wet 4;");
        Kit.due("as once", x.count(8), 7);
        Kit.due("wet(3)", x.wet(3), 0);
        for (int day = 4; day <= 10; day++) {
            Kit.due("wet(" + day + ")", x.wet(day), 1);
        }
        Kit.due("wet(11)", x.wet(11), 0);
    }

    private void tank() {
        doc.says(Doc.TERMS, "tank: what a tank holds 1 .. 999, what a pane by a POLE takes 1 .. 99 (no tank: as much as wanted).");
        bound("tank # 1;", 1, 999);
        bound("tank 1 #;", 1, 99);
        PaneRounds x = Kit.told("pole p 9 0;front f 1 1 pane 0 1;man m 0 0 10;house h f m 0 0 1;");
        x.days(1);
        Kit.due("wiped without a tank", x.wiped(0), 1);
        Kit.due("no fillings", x.tanks(0, 0), 0);
    }

    private void numberedAsTheyCome() {
        doc.says(Doc.TERMS, "All numbered as they come, with names of their kind.");
        PaneRounds x = Kit.told("pole c 9 0;front c 1 1;ladder b 5;man b 0 0 10;pole a 9 1;front a 1 1;ladder d 6;man a 0 0 10;man c 0 0 10;"
                + "house b a c 0 0 1;house a c a 0 0 1;house d c b 0 0 1;");
        String[] names = {"b d c a", "c a", "b a c", "b a d"};
        for (int what = 0; what < 4; what++) {
            String[] kind = names[what].split(" ");
            for (int i = 0; i < kind.length; i++) {
                Kit.due("named(" + what + ", " + kind[i] + ")", x.named(what, Kit.letters(kind[i])), i);
            }
        }
        Kit.due("front of house 0", x.look(0, 0), 1);
        Kit.due("man of house 0", x.look(0, 1), 2);
        Kit.due("front d", x.named(1, Kit.letters("d")), -1);
        Kit.due("house c", x.named(3, Kit.letters("c")), -1);
    }

    private void firstAlongTheText() {
        doc.says(Doc.TERMS, "FAULTS, the first along the text (of one place the least), with its place:");
        Kit.faultyAt("tank ^0 0;$", 2);
        Kit.faultyAt("^$;tank 0 0;", 1);
        Kit.faultyAt("ladder a 4;ladder ^a 3;", 3);
        Kit.faultyAt("ladder a 4;ladder b ^3;ladder a 4;", 2);
        Kit.faultyAt("house h ^f m 99 0 1;", 4);
        Kit.faultyAt(HOUSE + ";house ^h q q 0 0 1;", 3);
        Kit.faultyAt(HOUSE + ";house i ^q h 0 0 1;", 4);
        // of one place the least: it can't stand there, and would be told again or too much
        Kit.faultyAt(HOUSE + " price ^price 5;", 1);
        Kit.faultyAt(HOUSE + " from ^from 5;", 1);
        Kit.faultyAt("complain 1 ^10000;", 1);
        Kit.faultyAt("tank 1 1 ^1000;", 1);
        Kit.faultyAt("complain 1 ^complain 1;", 1);
        Kit.faultyAt("front f 1 1;house h ^abcdefg m 0 0 1;", 1);
        Kit.faultyAt("complain ((((((((1^(1)))))))));", 1);
        // a line too many is told at its word, whatever follows
        Kit.faultyAt("man a 0 0 10;man b 0 0 10;man c 0 0 10;^man a 99 99 9;", 2);
        Kit.faultyAt("front f 1 1 pane 0 ^2 pane 0 1 pane 0 1;", 2);
    }

    private void noToken() {
        doc.says(Doc.TERMS, "1 a TOKEN that is none (a word of more than 6 letters, too) or can't stand there (the length, if more must come).");
        Kit.faultyAt("^#", 1);
        Kit.faultyAt("tank 1 1;^#", 1);
        Kit.faultyAt("^abcdefg;", 1);
        Kit.faultyAt("tank 1 ^abcdefghijklmnopqrstuvwxyz;", 1);
        Kit.faultyAt("^complains 1;", 1);
        Kit.faultyAt("^complai 1;", 1);
        Kit.faultyAt("trust 1 ^complaint;", 1);
        Kit.fine("complain 1;", 1);
        Kit.faultyAt("tank 1 ^tank;", 1);
        Kit.faultyAt("^tan k 1 1;", 1);
        Kit.faultyAt("tank^", 1);
        Kit.faultyAt("tank 1 1^", 1);
        Kit.faulty("tank 1 1 \n ", 1, 11);
        Kit.faulty("tank 1 1;tank", 3, 9);
        Kit.faulty("tank 1 1;wet 1 to\n", 1, 18);
        String long900 = "tank 1 1" + " ".repeat(892);
        Kit.faulty(long900, 1, 900);
    }

    private void tooMuch() {
        doc.says(Doc.TERMS, "2 too much (at it): a number beyond what is said, a fifth ladder and so on, a 13th pane (at the word),");
        Kit.faultyAt("pole p 4 ^10;", 2);
        Kit.faultyAt("pole p ^41 10;", 2);
        Kit.faultyAt("ladder a 4;ladder b 4;ladder c 4;ladder d 4;^ladder e 4;", 2);
        Kit.faultyAt("ladder a 4;ladder b 4;ladder c 4;ladder d 4;^ladder;", 2);
        StringBuilder panes = new StringBuilder("front f 1 24");
        for (int i = 1; i <= 12; i++) {
            panes.append(" pane 0 ").append(i);
        }
        Kit.faultyAt(panes + " ^pane 0 13;", 2);
        Kit.faultyAt(panes + " ^pane 0 1;", 2);
        Kit.faultyAt(panes + " ^pane;", 2);
    }

    private void openings() {
        doc.says(Doc.TERMS, "a ninth '(' open,");
        Kit.fine("trust ((((((((1))))))));", 1);
        Kit.faultyAt("trust ((((((((^(1)))))))));", 2);
        Kit.faultyAt("trust ((((((((^(", 2);
        Kit.fine("trust (1)+(1)+(1)+(1)+(1)+(1)+(1)+(1)+(1)+(1);", 1);
        Kit.fine("trust (((((((1)+(1)))))))+((((((((1))))))));", 1);
        Kit.faultyAt("trust (((((((1)+(1+(^(1)))))))));", 2);
        Kit.faultyAt("trust not(not(not(not(not(not(not(not(not^(1)))))))));", 2);
        Kit.fine("trust ((((((((1))))))));complain ((((((((1))))))));", 2);
        Kit.faultyAt("trust ((((((((1))))))));complain ((((((((^(1)))))))));", 2);
    }

    private void knots() {
        doc.says(Doc.TERMS, "a 65th KNOT of all E (N, NAMES, signs, not, and, or: one each).");
        knotsOf("7", 1);
        knotsOf("day", 1);
        knotsOf("((day))", 1);
        knotsOf("not day", 2);
        knotsOf("1 and 2", 3);
        knotsOf("1 or 2", 3);
        knotsOf("1+2-3*4/5", 9);
        knotsOf("1<=2", 3);
        String ones = "1" + "+1".repeat(31);
        Kit.due("63", Kit.told("trust " + ones + ";").count(7), 63);
        Kit.due("64 of two", Kit.told("complain " + ones + ";trust 5;").count(7), 64);
        Kit.faultyAt("complain " + ones + ";trust 5^+5;", 2);
        Kit.faultyAt("complain " + ones + ";trust not ^5;", 2);
        Kit.faultyAt("complain 5+5;trust " + "1" + "+1".repeat(30) + "^+1;", 2);
        Kit.due("64 of one", Kit.told("trust not " + ones + ";").count(7), 64);
        String full = "trust " + "not ".repeat(32) + "1" + "+1".repeat(15);
        Kit.due("nots and a sum", Kit.told(full + ";").count(7), 63);
        for (String sign : new String[] {"+", "-", "*", "/", "<", "<=", "=", "<>", ">=", ">", " and ", " or "}) {
            // the sign is the 64th, what follows the 65th
            String at = sign.startsWith(" ") ? " ^" + sign.substring(1) : "^" + sign;
            Kit.faultyAt(full + sign + "^1;", 2);
            Kit.faultyAt(full + sign + "^day;", 2);
            Kit.faultyAt(full + sign + "((^1));", 2);
            Kit.faultyAt(full.replace("trust not", "trust not not") + at + "1;", 2);
        }
        // what is open counts for nothing
        Kit.due("64 in eight", Kit.told("trust ((((((((not " + ones + "))))))));").count(7), 64);
        Kit.due("64, the last of them in eight", Kit.told("trust not " + "1+".repeat(31) + "((((((((1))))))));").count(7), 64);
        Kit.faultyAt("trust ((((((((not " + ones + "^+1))))))));", 2);
        Kit.faultyAt(full + " or ^not 1;", 2);
        Kit.faultyAt(full + " or ^dog;", 1);
        Kit.faultyAt(full + "*^not 1;", 1);
        Kit.faultyAt("trust " + "not ".repeat(64) + "^not 1;", 2);
        Kit.faultyAt("trust " + "not ".repeat(64) + "^1;", 2);
        Kit.fine("trust " + "not ".repeat(63) + "1;", 1);
    }

    private static void knotsOf(String rule, int knots) {
        Kit.due("knots of " + rule, Kit.told("trust " + rule + ";").count(7), knots);
    }

    private void toldAlready() {
        doc.says(Doc.TERMS, "3 told already: a name of its kind (at W), complain, trust, tank, price, dog, from (at the word),"
                + " a pane's place (at its second N), a column blocked or soft, a weekday (at N).");
        Kit.faultyAt("ladder a 4;ladder ^a 4;", 3);
        Kit.faultyAt("pole a 4 0;pole ^a 4 0;", 3);
        Kit.faultyAt("front a 1 1;front ^a 1 1;", 3);
        Kit.faultyAt("man a 0 0 10;man ^a 0 0 10;", 3);
        Kit.faultyAt(HOUSE + ";house ^h f m 0 0 1;", 3);
        Kit.fine("ladder a 4;front a 1 1;man a 0 0 10;house a a a 0 0 1;", 4);
        Kit.faultyAt("complain 0;trust 0;^complain 0;", 3);
        Kit.faultyAt("complain 0;trust 0;^trust", 3);
        Kit.faultyAt("tank 1 1;^tank 1 1;", 3);
        Kit.faultyAt(HOUSE + " price 10 dog ^price 10;", 3);
        Kit.faultyAt(HOUSE + " dog price 1 ^dog;", 3);
        Kit.faultyAt(HOUSE + " from 0 dog ^from;", 3);
        Kit.faultyAt(HOUSE + " from 0 dog ^from 200;", 3);
        Kit.fine(HOUSE + " price 1 dog from 1;house i f m 0 0 1 price 1 dog from 1;", 4);
        Kit.faultyAt("front f 3 5 pane 1 2 pane 2 1 pane 1 ^2;", 3);
        Kit.faultyAt("front f 3 5 block 1 block ^1;", 3);
        Kit.faultyAt("front f 3 5 soft 1 soft ^1;", 3);
        Kit.faultyAt(HOUSE + " not 6 home 6 not ^6;", 3);
        Kit.faultyAt(HOUSE + " home 0 not 0 home ^0;", 3);
    }

    private void untold() {
        doc.says(Doc.TERMS, "4 a FRONT, MAN that isn't told ahead (at W).");
        Kit.faultyAt("man m 0 0 10;house h ^f m 0 0 1;front f 1 1;", 4);
        Kit.faultyAt("front f 1 1;house h f ^m 0 0 1;man m 0 0 10;", 4);
        Kit.faultyAt(HEAD + "house h ^m m 0 0 1;", 4);
        Kit.faultyAt(HEAD + "house h f ^f 0 0 1;", 4);
        Kit.faultyAt(HEAD + "house h ^h m 0 0 1;", 4);
        Kit.faultyAt(HEAD + "house h ^ff m 0 0 1;", 4);
        // what a former text told isn't told ahead
        PaneRounds x = Kit.told(HEAD);
        Kit.due("a former text", Kit.tell(x, "house h f m 0 0 1;"), -1);
        Kit.due("its fault", x.fault(0), 4);
    }
}
