/** Promises 1 to 5: a new object, feed, text, fault, named. */
public final class TextTest {
    private static final String HOUSE = "front f 3 5;man m 0 0 10;house h f m 0 0 1";

    public static void main(String[] args) {
        newObject();
        feeding();
        telling();
        tokens();
        tooMuch();
        toldAlready();
        untold();
        rules();
        bounds();
        names();
        Kit.end();
    }

    private static void newObject() {
        PaneRounds x = new PaneRounds();
        for (int what = 0; what <= 12; what++) {
            Kit.due("new count(" + what + ")", x.count(what), 0);
        }
        Kit.due("new fault(0)", x.fault(0), 0);
        Kit.due("new fault(1)", x.fault(1), -1);
        Kit.due("new fault(2)", x.fault(2), -1);
        Kit.due("new fault(-1)", x.fault(-1), -1);
        Kit.due("new back()", x.back(), -1);
        Kit.due("new text(1)", x.text(1), -2);
        Kit.due("new wet(0)", x.wet(0), 0);
        Kit.due("new wiped(0)", x.wiped(0), -1);
        Kit.due("new days(200)", x.days(200), 200);
        Kit.due("wiped(199)", x.wiped(199), 0);
        Kit.due("feed", x.feed(0, 0, 0, 0, 0), 20);
    }

    private static void feeding() {
        PaneRounds x = new PaneRounds();
        for (int i = 1; i <= 45; i++) {
            Kit.due("feed " + i, x.feed(0x20202020, 0x20202020, 0x20202020, 0x20202020, 0x20202020), 20 * i);
        }
        Kit.due("feed beyond 900", x.feed(1, 2, 3, 4, 5), -1);
        Kit.due("text(901)", x.text(901), -2);
        Kit.due("feed beyond 900 again", x.feed(1, 2, 3, 4, 5), -1);
        Kit.due("text(900) of blanks", x.text(900), 0);
        Kit.due("feed behind text", x.feed(-1, 2, 3, 4, 5), 20);
        Kit.due("text(1) of sign 255", x.text(1), -1);
        Kit.due("its place", x.fault(1), 0);
    }

    private static void telling() {
        PaneRounds x = Kit.told("tank 3 4;");
        Kit.lay(x, "tank 5 6;");
        Kit.due("text(-1)", x.text(-1), -2);
        Kit.due("text(21)", x.text(21), -2);
        Kit.due("count(9)", x.count(9), 3);
        Kit.due("text(8)", x.text(8), -1);
        Kit.due("fault(0)", x.fault(0), 1);
        Kit.due("fault(1)", x.fault(1), 8);
        Kit.due("text(1) of none", x.text(1), -2);
        Kit.due("fault(0) stays", x.fault(0), 1);
        Kit.due("count(9) stays", x.count(9), 3);
        Kit.due("the tape is empty", Kit.lay(x, "tank 5 6;"), 20);
        Kit.due("text(9)", x.text(9), 1);
        Kit.due("fault(0) gone", x.fault(0), 0);
        Kit.due("fault(1) gone", x.fault(1), -1);
        Kit.due("count(9) new", x.count(9), 5);
        Kit.lay(x, "tank 1 1;");
        Kit.due("text(0)", x.text(0), 0);
        Kit.due("count(9) none", x.count(9), 0);
        Kit.due("text(1): the tape is empty", x.text(1), -2);

        PaneRounds y = Kit.told(HOUSE + ";");
        y.days(3);
        y.pay(0, 0, 1);
        y.keep();
        Kit.tell(y, "tank 5;");
        Kit.due("day stays", y.count(6), 3);
        Kit.due("notes stay", y.count(5), 1);
        Kit.due("image stays", y.back(), 3);
        Kit.tell(y, HOUSE + ";");
        Kit.due("day 0 again", y.count(6), 0);
        Kit.due("no notes", y.count(5), 0);
        Kit.due("no image", y.back(), -1);
        Kit.due("not wiped", y.now(0, 1), 0);
        cutTexts();
        thirdTexts();
    }

    /** What stands on the tape behind the first n bytes isn't read. */
    private static void cutTexts() {
        PaneRounds x = new PaneRounds();
        Kit.lay(x, "tank 5 100;");
        Kit.due("a number is cut", x.text(9), -1);
        Kit.due("its fault", x.fault(0), 1);
        Kit.due("its place", x.fault(1), 9);
        Kit.lay(x, "ladder a 4;");
        Kit.due("a word is cut", x.text(5), -1);
        Kit.due("its place", x.fault(1), 0);
        Kit.lay(x, "tank 5 9;tank");
        Kit.due("a line is cut", x.text(9), 1);
        Kit.lay(x, ";".repeat(900));
        Kit.due("900 tokens", x.text(900), -1);
        Kit.due("their place", x.fault(1), 0);
    }

    /** Nothing of a text is left when another is told, whichever room it takes inside. */
    private static void thirdTexts() {
        String full = "ladder l 9;pole p 9 1;front f 3 5 pane 0 1 block 1 soft 2;man m 1 2 30;"
                + "house h f m 3 4 5 not 1 price 6 dog from 7 home 2;wet 0 to 199;complain 1;trust 0;tank 3 4;";
        PaneRounds x = new PaneRounds();
        for (int i = 0; i < 3; i++) {
            Kit.due("full", Kit.tell(x, full), 9);
            Kit.due("full wet", x.count(8), 200);
        }
        for (int i = 0; i < 3; i++) {
            Kit.due("bare", Kit.tell(x, "front f 1 1;man m 0 0 10;house h f m 0 0 1;"), 3);
            for (int what : new int[] {0, 1, 5, 6, 7, 8, 9, 10, 11, 12}) {
                Kit.due("bare count(" + what + ")", x.count(what), 0);
            }
            Kit.due("bare wet(0)", x.wet(0), 0);
            Kit.due("bare panes", x.front(0, 2) + x.front(0, 3) + x.front(0, 4), 0);
            int[] want = {0, 0, 0, 0, 1, 0, 10, 0, 0};
            for (int what = 0; what < 9; what++) {
                Kit.due("bare look(0, " + what + ")", x.look(0, what), want[what]);
            }
            Kit.due("bare due", x.now(0, 0), 0);
            Kit.due("bare day", x.days(1), 1);
            Kit.due("bare wiped", x.wiped(0), 1);
        }
    }

    private static void tokens() {
        Kit.fine("", 0);
        Kit.fine(" \n ", 0);
        Kit.fine("ladder\na\n4;\n", 1);
        Kit.fine("ladder a4;pole b5 6;wet0to5;", 3);
        Kit.fine("ladder abcdef 000000000000000000004;", 1);
        Kit.faultyAt("^;", 1);
        Kit.faultyAt("tank 1 1;^;", 1);
        Kit.faultyAt("ladder ^abcdefg 4;", 1);
        Kit.faultyAt("ladder a ^b;", 1);
        Kit.faultyAt("ladder a 4 ^4;", 1);
        Kit.faultyAt("ladder a 4 ^pole b 4 4;", 1);
        Kit.faultyAt("ladder ^4 4;", 1);
        Kit.faultyAt("ladder a 4^\t;", 1);
        Kit.faultyAt("ladder a 4^\r;", 1);
        Kit.faultyAt("^Ladder a 4;", 1);
        Kit.faultyAt("ladder a^B 4;", 1);
        Kit.faultyAt("^ladders a 4;", 1);
        Kit.faultyAt("^complains 1;", 1);
        Kit.faultyAt("ladder a ^-4;", 1);
        Kit.faultyAt("ladder a 4^", 1);
        Kit.faulty("ladder a 4   ", 1, 13);
        Kit.faultyAt("ladder a 4;^to", 1);
        Kit.faultyAt("wet 1 to ^;", 1);
        Kit.faultyAt("wet 1 ^2;", 1);
        Kit.faultyAt("front f 1 1 ^dog;", 1);
        Kit.faultyAt(HOUSE + " ^pane;", 1);
        Kit.faultyAt(HOUSE + " dog ^1;", 1);
        Kit.faultyAt(HOUSE + " home ^;", 1);
        String words = "ladder pole front man house wet complain trust tank pane block soft dog from home to not or and"
                + " waits owes times price every day";
        for (String word : words.split(" ")) {
            Kit.faultyAt("ladder ^" + word + " 4;", 1);
            Kit.faultyAt("front f 1 1;man m 0 0 10;house h ^" + word + " m 0 0 1;", 1);
        }
    }

    private static void tooMuch() {
        Kit.faultyAt("ladder a 4;ladder b 4;ladder c 4;ladder d 4;^ladder a 3;", 2);
        Kit.faultyAt("pole a 4 0;pole b 4 0;pole c 4 0;^pole", 2);
        Kit.faultyAt("front a 1 1;front b 1 1;front c 1 1;front d 1 1;front e 1 1;^front a 1 1;", 2);
        Kit.faultyAt("man a 0 0 10;man b 0 0 10;man c 0 0 10;^man d 0 0 10;", 2);
        StringBuilder ten = new StringBuilder("front f 1 1;man m 0 0 10;");
        for (char name = 'a'; name < 'k'; name++) {
            ten.append("house ").append(name).append(" f m 0 0 1;");
        }
        Kit.fine(ten.toString(), 12);
        Kit.faultyAt(ten + "^house k f m 0 0 1;", 2);
        StringBuilder twelve = new StringBuilder("front f 12 1");
        for (int i = 0; i < 12; i++) {
            twelve.append(" pane ").append(i).append(" 1");
        }
        Kit.fine(twelve + ";", 1);
        Kit.faultyAt(twelve + " ^pane 0 1;", 2);
        Kit.faultyAt("tank ^99999999999999999999 1;", 2);
        Kit.faultyAt("tank ^4294967297 1;", 2);
    }

    private static void toldAlready() {
        Kit.faultyAt("pole a 4 0;ladder ^a 3;", 3);
        Kit.faultyAt("ladder a 4;ladder ^a 4;", 3);
        Kit.faultyAt("pole a 4 0;pole ^a 4 0;", 3);
        Kit.faultyAt("ladder a 4;pole ^a 4 0;", 3);
        Kit.faultyAt("front a 1 1;front ^a 1 1;", 3);
        Kit.faultyAt("man a 0 0 10;man ^a 0 0 10;", 3);
        Kit.faultyAt(HOUSE + ";house ^h f m 0 0 1;", 3);
        Kit.fine("ladder a 4;front a 1 1;man a 0 0 10;house a a a 0 0 1;", 4);
        Kit.faultyAt("complain 1;^complain 1;", 3);
        Kit.faultyAt("trust 1;complain 1;^trust", 3);
        Kit.faultyAt("tank 1 1;^tank 0 0;", 3);
        Kit.faultyAt(HOUSE + " price 1 ^price 1;", 3);
        Kit.faultyAt(HOUSE + " price 10 ^price;", 3);
        Kit.faultyAt(HOUSE + " from 0 ^from 1;", 3);
        Kit.faultyAt(HOUSE + " dog ^dog;", 3);
        Kit.faultyAt(HOUSE + " not 1 not ^1;", 3);
        Kit.faultyAt(HOUSE + " home 6 home ^6;", 3);
        Kit.fine(HOUSE + " home 1 not 1 home 2 not 2 dog from 5 price 6;", 3);
        Kit.faultyAt("front f 3 5 pane 1 2 pane 1 3 pane 2 2 pane 1 ^2;", 3);
        Kit.faultyAt("front f 3 5 block 1 soft 1 block ^1;", 3);
        Kit.faultyAt("front f 3 5 soft 1 block 1 soft ^1;", 3);
        Kit.fine("wet 3;wet 3;wet 1 to 5;", 3);
    }

    private static void untold() {
        Kit.faultyAt("man m 0 0 10;house h ^f m 0 0 1;front f 1 1;", 4);
        Kit.faultyAt("front f 1 1;house h f ^m 0 0 1;man m 0 0 10;", 4);
        Kit.faultyAt("front f 1 1;house h f ^f 0 0 1;", 4);
    }

    private static void rules() {
        Kit.fine("complain 1;trust 0;", 2);
        Kit.fine("complain not not not 1 and not 2 or (not 3)+4*5-6/7=8;", 1);
        Kit.fine("complain waits<1 and owes<=2 and times=3 and price<>4 and every>=5 and day>6;", 1);
        Kit.faultyAt("complain 1 < 2 ^< 3;", 1);
        Kit.faultyAt("complain 1 = 2 + 3 ^<> 3;", 1);
        Kit.faultyAt("complain 1 < ^not 2;", 1);
        Kit.faultyAt("complain 1 + ^not 2;", 1);
        Kit.faultyAt("complain 1 ^not 2;", 1);
        Kit.faultyAt("complain ^-1;", 1);
        Kit.faultyAt("complain 1 ^2;", 1);
        Kit.faultyAt("complain (1^;", 1);
        Kit.faultyAt("complain 1^);", 1);
        Kit.faultyAt("complain (^);", 1);
        Kit.faultyAt("complain 1 + ^;", 1);
        Kit.faultyAt("complain 1 and ^or 2;", 1);
        Kit.faultyAt("complain 1 < ^= 2;", 1);
        Kit.faultyAt("complain 1 > ^< 2;", 1);
        Kit.faultyAt("complain 1 <>^= 2;", 1);
        Kit.faultyAt("complain ^abc;", 1);
        Kit.faultyAt("complain 1 + (2^", 1);
        Kit.faultyAt("complain ^10000;", 2);
        Kit.fine("complain 9999;", 1);
        Kit.fine("complain ((((((((1))))))))+((((((((1))))))));", 1);
        Kit.faultyAt("complain ((((((((^(1)))))))));", 2);
        knots();
    }

    private static void knots() {
        StringBuilder sum = new StringBuilder("1");
        for (int i = 0; i < 30; i++) {
            sum.append("+1");
        }
        String most = "complain " + sum + ";trust not(";
        PaneRounds x = Kit.told(most + "1);");
        Kit.due("count(7)", x.count(7), 63);
        Kit.fine("complain " + sum + ";trust not not(1);", 2);
        Kit.faultyAt(most + "1+^1);", 2);
        Kit.faultyAt(most + "1+(^1));", 2);
        Kit.faultyAt(most + "not not ^not 1);", 2);
        Kit.faultyAt(most + "not not ^1);", 2);
        Kit.faultyAt(most + "not not ^day);", 2);
        Kit.faultyAt(most + "not not ^10000);", 2);
        Kit.faultyAt(most + "not not ^abc);", 1);
        Kit.faultyAt(most + "not 1 ^2);", 1);
        Kit.faultyAt(most + "not 1 ^+ 1);", 2);
        String nots = "not not not not not not not not ";
        PaneRounds y = Kit.told("trust (((((((" + nots + nots + nots + nots + nots + nots + nots + "(not not not not not not not 1))))))));");
        Kit.due("count(7) of nots", y.count(7), 64);
        Kit.faultyAt("trust " + nots + nots + nots + nots + nots + nots + nots + nots + "^1;", 2);
    }

    /** Each number is told at its least and most, and once beyond each. */
    private static void bounds() {
        bound("ladder a #;", 4, 30);
        bound("pole a # 0;", 4, 40);
        bound("pole a 4 #;", 0, 9);
        bound("front f # 1;", 1, 12);
        bound("front f 1 #;", 1, 24);
        bound("front f 3 5 pane # 1;", 0, 2);
        bound("front f 3 5 pane 0 #;", 1, 5);
        bound("front f 3 5 block #;", 0, 2);
        bound("front f 3 5 soft #;", 0, 2);
        bound("man m # 0 10;", 0, 9);
        bound("man m 0 # 10;", 0, 99);
        bound("man m 0 0 #;", 10, 600);
        bound("front f 3 5;man m 0 0 10;house h f m # 0 1;", 0, 9);
        bound("front f 3 5;man m 0 0 10;house h f m 0 # 1;", 0, 99);
        bound("front f 3 5;man m 0 0 10;house h f m 0 0 #;", 1, 9);
        bound(HOUSE + " not #;", 0, 6);
        bound(HOUSE + " home #;", 0, 6);
        bound(HOUSE + " price #;", 0, 999);
        bound(HOUSE + " from #;", 0, 199);
        bound("wet #;", 0, 199);
        bound("wet 7 to #;", 7, 199);
        bound("tank # 1;", 1, 999);
        bound("tank 1 #;", 1, 99);
        bound("trust #;", 0, 9999);
    }

    private static void bound(String line, int least, int most) {
        int lines = line.split(";").length;
        Kit.fine(line.replace("#", "" + least), lines);
        Kit.fine(line.replace("#", "" + most), lines);
        if (least > 0) {
            Kit.faultyAt(line.replace("#", "^" + (least - 1)), 2);
        }
        Kit.faultyAt(line.replace("#", "^" + (most + 1)), 2);
    }

    private static void names() {
        PaneRounds x = Kit.told("pole p 9 0;ladder abcdef 9;front zz 1 1;front zy 1 1;ladder b 8;pole ba 7 0;man m 0 0 10;man n 0 0 10;"
                + "house h zz m 0 0 1;house p zz n 0 0 1;");
        Kit.due("a is highest", Kit.letters("a"), 1 << 25);
        Kit.due("ladder abcdef", x.named(0, Kit.letters("abcdef")), 0);
        Kit.due("ladder b", x.named(0, Kit.letters("b")), 1);
        Kit.due("pole p comes behind ladders", x.named(0, Kit.letters("p")), 2);
        Kit.due("pole ba is behind it", x.named(0, Kit.letters("ba")), 3);
        Kit.due("front zy", x.named(1, Kit.letters("zy")), 1);
        Kit.due("front zz", x.named(1, Kit.letters("zz")), 0);
        Kit.due("man n", x.named(2, Kit.letters("n")), 1);
        Kit.due("house p", x.named(3, Kit.letters("p")), 1);
        Kit.due("house b", x.named(3, Kit.letters("b")), -1);
        Kit.due("front b", x.named(1, Kit.letters("b")), -1);
        Kit.due("man p", x.named(2, Kit.letters("p")), -1);
        Kit.due("tool 0", x.named(0, 0), -1);
        Kit.due("tool -1", x.named(0, -1), -1);
        Kit.due("a letter low", x.named(0, 2), -1);
        Kit.due("bits above", x.named(0, Kit.letters("b") | 1 << 30), -1);
        Kit.due("what 4", x.named(4, Kit.letters("p")), -1);
        Kit.due("what -1", x.named(-1, Kit.letters("p")), -1);
        Kit.tell(x, "ladder q 9;");
        Kit.due("house p is gone", x.named(3, Kit.letters("p")), -1);
        Kit.due("tool q", x.named(0, Kit.letters("q")), 0);
    }
}
