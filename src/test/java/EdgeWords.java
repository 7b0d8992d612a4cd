/** Edges of the tape and of the language: promises 1 to 5, and what the terms say of lines, words and E. */
final class EdgeWords {
    private static final int NONE = PaneRounds.NONE;
    private static final int BLANKS = 0x20202020;
    private static final String HEAD = "front f 3 5;man m 0 0 10;";
    /** Behind a token with a point the line may end. */
    private static final String[] LINES = {"ladder l 4.", "pole p 4 0.", "front g 3 5. pane 0 1. block 0. soft 1. pane 1 1.",
        "man n 0 0 10.", "house h f m 0 0 1. not 1. price 3. dog. from 4. home 5. not 2.", "wet 3. to 4.", "complain 1.",
        "trust day.", "tank 1 1."};
    private static final String LANGUAGE = "ladder pole front pane block soft man house not price dog from home wet to complain"
            + " trust tank or and waits owes times every day";
    private final Doc doc;

    EdgeWords(Doc doc) {
        this.doc = doc;
    }

    void run() {
        newObject();
        feedAnswersTheSize();
        feedTakesTheHighestByteFirst();
        feedRefusesBeyond900();
        textTakesTheFirstBytes();
        textStartsAnew();
        textWithFaultLeavesAll();
        textRefusesWhatIsNotThere();
        faultOfTheLatestText();
        namesByLetters();
        toolsAreOneKind();
        linesEndBySemicolon();
        linesAreWhole();
        wordsOfOneToSixLetters();
        numbersAreDigits();
        onlyTwoBlanks();
        orsAndAnds();
        notsAndComparisons();
        sumsAndProducts();
        valuesOfRules();
        signsOfTwo();
    }

    private void newObject() {
        doc.says(1, "No TEXT, day 0 is next, no NOTES, IMAGE; an empty TAPE.");
        Kit.due("NONE", PaneRounds.NONE, -1);
        PaneRounds x = new PaneRounds();
        for (int what = 0; what <= 12; what++) {
            Kit.due("new: count(" + what + ")", x.count(what), 0);
        }
        Kit.due("new: no front", x.front(0, 0), NONE);
        Kit.due("new: no man", x.worth(0), NONE);
        Kit.due("new: no house", x.now(0, 0), Integer.MIN_VALUE);
        Kit.due("new: no tool", x.missing(0, 0, false), NONE);
        Kit.due("new: no wet day", x.wet(0) + x.wet(199), 0);
        Kit.due("new: day 0 isn't done", x.wiped(0), NONE);
        Kit.due("new: no note", x.strike(0), NONE);
        Kit.due("new: no image", x.back(), NONE);
        Kit.due("new: the tape is empty", x.text(1), -2);
        Kit.due("new: twenty bytes", x.feed(0, 0, 0, 0, 0), 20);
    }

    private void feedAnswersTheSize() {
        doc.says(2, "Twenty bytes come behind the TAPE, four of each number,");
        doc.says(2, "how many it has;");
        PaneRounds x = new PaneRounds();
        for (int i = 1; i <= 45; i++) {
            Kit.due("feed " + i, x.feed(BLANKS, BLANKS, BLANKS, BLANKS, BLANKS), 20 * i);
        }
        Kit.due("all are there", x.text(900), 0);
        x.feed(0x74616e6b, 0x20372038, 0x3b746f6f, 0x20202020, 0x20202020);
        x.feed(0x20202020, 0x20202020, 0x20202020, 0x20202020, 0x20202074);
        Kit.due("the last byte is the 40th", x.text(40), NONE);
        Kit.due("what comes ahead is read first", x.fault(1), 9);
    }

    private void feedTakesTheHighestByteFirst() {
        doc.says(2, "the highest first:");
        PaneRounds x = new PaneRounds();
        // tank 12 34;wet 5 .. over all five numbers
        x.feed(0x74616e6b, 0x20313220, 0x33343b77, 0x65742035, 0x3b202020);
        Kit.due("two lines", x.text(20), 2);
        Kit.due("holds", x.count(9), 12);
        Kit.due("takes", x.count(10), 34);
        Kit.due("wet", x.wet(5), 1);
        // bytes above 127 are no letters, digits or blanks, whatever stands below them
        x.feed(0x74616e6b, 0x20b1a0b1, 0x3b202020, BLANKS, BLANKS);
        Kit.due("high bytes", x.text(20), NONE);
        Kit.due("at the first", x.fault(1), 5);
        x.feed(-1, -1, -1, -1, -1);
        Kit.due("all ones", x.text(20), NONE);
        Kit.due("at once", x.fault(1), 0);
    }

    private void feedRefusesBeyond900() {
        doc.says(2, "NONE, and none come, if it would have more than 900.");
        PaneRounds x = new PaneRounds();
        for (int i = 0; i < 44; i++) {
            x.feed(BLANKS, BLANKS, BLANKS, BLANKS, BLANKS);
        }
        Kit.due("just 900", x.feed(BLANKS, BLANKS, BLANKS, BLANKS, 0x2020203b), 900);
        Kit.due("none more", x.feed(0, 0, 0, 0, 0), NONE);
        Kit.due("again", x.feed(0, 0, 0, 0, 0), NONE);
        Kit.due("none came", x.text(901), -2);
        Kit.due("all 900 are read", x.text(900), NONE);
        Kit.due("to the last one", x.fault(1), 899);
        Kit.due("there is room again", x.feed(BLANKS, BLANKS, BLANKS, BLANKS, BLANKS), 20);
    }

    private void textTakesTheFirstBytes() {
        doc.says(3, "The TAPE's first n bytes (it is empty then) are the TEXT");
        doc.says(3, "how many LINES;");
        PaneRounds x = new PaneRounds();
        Kit.lay(x, "wet 1;wet 2;wet 3;");
        Kit.due("two of three lines", x.text(12), 2);
        Kit.due("the third isn't told", x.wet(3), 0);
        Kit.due("what was behind is gone", x.text(1), -2);
        Kit.due("the tape begins anew", Kit.lay(x, "wet 4;"), 20);
        Kit.due("a blank more", x.text(7), 1);
        Kit.due("only the new one is wet", x.count(8), 1);
        Kit.lay(x, "wet 5;");
        Kit.due("no bytes", x.text(0), 0);
        Kit.due("nothing is told", x.count(8), 0);
        Kit.due("though the tape had some", x.text(1), -2);
        Kit.lay(x, "wet 12;");
        Kit.due("a number ends with the text", x.text(5), NONE);
        Kit.due("its place is n", x.fault(1), 5);
        StringBuilder most = new StringBuilder();
        for (int i = 0; i < 150; i++) {
            most.append("wet ").append(i % 10).append(';');
        }
        Kit.due("150 lines in 900 bytes", Kit.tell(x, most.toString()), 150);
    }

    private void textStartsAnew() {
        doc.says(3, "(day 0 is next, no NOTES, IMAGE then):");
        PaneRounds x = Kit.told(HEAD + "house h f m 0 0 1 home 0;complain 1;wet 1 to 9;");
        x.days(9);
        x.pay(0, 0, 1);
        x.keep();
        Kit.tell(x, HEAD + "man n 0 0 10;house h f n 0 0 1 from 3;");
        Kit.due("day 0", x.count(6), 0);
        Kit.due("no notes", x.count(5), 0);
        Kit.due("no image", x.back(), NONE);
        Kit.due("no complaints", x.count(12), 0);
        Kit.due("due as told", x.now(0, 0), 3);
        Kit.due("never wiped", x.now(0, 5), NONE);
        Kit.due("never paid", x.now(0, 6), 0);
        Kit.due("day 0 isn't done", x.wiped(0), NONE);
        Kit.due("his as told", x.look(0, 1), 1);
        Kit.due("owes nothing", x.balance(0, -1), 0);
    }

    private void textWithFaultLeavesAll() {
        doc.says(3, "NONE with a FAULT, all stays;");
        PaneRounds x = Kit.told("ladder l 9;" + HEAD + "man n 0 0 10;house h f m 0 0 1 not 1;complain 1;wet 7;tank 3 4;");
        x.days(2);
        x.pay(0, 0, 1);
        x.sell(0, 1);
        x.keep();
        x.days(1);
        int[] counts = new int[13];
        for (int what = 0; what < 13; what++) {
            counts[what] = x.count(what);
        }
        Kit.due("a fault at the last byte", Kit.tell(x, "ladder q 9;ladder r 9;front e 1 1;man o 9 9 99;wet 0 to 199;trust 0;tank 9 9"), NONE);
        for (int what = 0; what < 13; what++) {
            Kit.due("stays: count(" + what + ")", x.count(what), counts[what]);
        }
        Kit.due("stays: its tools", x.named(0, Kit.letters("q")), NONE);
        Kit.due("stays: its front", x.front(0, 0), 3);
        Kit.due("stays: whose it is", x.look(0, 1), 1);
        Kit.due("stays: dry days", x.wet(0), 0);
        Kit.due("stays: what was wiped", x.wiped(0), 1);
        Kit.due("stays: the image", x.back(), 2);
        Kit.due("but the tape is empty", x.text(1), -2);
        Kit.due("from 0 on", Kit.lay(x, "tank 1 1;"), 20);
        Kit.due("and the next is told", x.text(9), 1);
    }

    private void textRefusesWhatIsNotThere() {
        doc.says(3, "-2, and the TAPE stays: there are not so many, n is below 0.");
        PaneRounds x = Kit.told("tank 5 6;");
        x.days(3);
        Kit.lay(x, "tank 7 8;");
        for (int n : new int[] {21, 900, 901, Integer.MAX_VALUE, -1, -2, Integer.MIN_VALUE}) {
            Kit.due("text(" + n + ")", x.text(n), -2);
        }
        Kit.due("nothing is told", x.count(9), 5);
        Kit.due("the day stays", x.count(6), 3);
        Kit.due("the tape stays: more comes behind it", Kit.lay(x, "wet 3;"), 40);
        Kit.due("all of it", x.text(40), 2);
        Kit.due("told", x.count(9), 7);
    }

    private void faultOfTheLatestText() {
        doc.says(4, "Of the latest text() that was not -2, what 0: its FAULT (0), 1: its place (NONE without).");
        doc.says(4, "NONE for another what.");
        PaneRounds x = new PaneRounds();
        faults(x, "before any text", 0, NONE);
        x.text(3);
        faults(x, "behind -2", 0, NONE);
        Kit.tell(x, "tank 0 1;");
        faults(x, "behind a fault", 2, 5);
        x.text(-1);
        x.text(1);
        faults(x, "behind a fault and -2", 2, 5);
        x.days(1);
        x.feed(0, 0, 0, 0, 0);
        faults(x, "behind other calls", 2, 5);
        Kit.due("text(0)", x.text(0), 0);
        faults(x, "behind a text", 0, NONE);
        Kit.tell(x, "tank");
        faults(x, "behind a short one", 1, 4);
        Kit.tell(x, "tank 1 1;tank 1 1;");
        faults(x, "behind another fault", 3, 9);
    }

    private static void faults(PaneRounds x, String when, int number, int place) {
        Kit.due(when + ": fault(0)", x.fault(0), number);
        Kit.due(when + ": fault(1)", x.fault(1), place);
        for (int what : new int[] {2, -1, Integer.MIN_VALUE, Integer.MAX_VALUE}) {
            Kit.due(when + ": fault(" + what + ")", x.fault(what), NONE);
        }
    }

    private void namesByLetters() {
        doc.says(5, "The number of a tool (what 0), FRONT (1), MAN (2), HOUSE (3) by its letters, 5 bits each (a is 1;"
                + " the first one highest of six, 0 behind the last one);");
        doc.says(5, "NONE: there is none such.");
        PaneRounds x = Kit.told("ladder a 4;ladder z 4;pole zzzzzz 4 0;front a 1 1;front az 1 1;man abcdef 0 0 10;man b 0 0 10;"
                + "house aa a b 0 0 1;house aaaaaa a b 0 0 1;");
        Kit.due("a", x.named(0, 1 << 25), 0);
        Kit.due("z", x.named(0, 26 << 25), 1);
        int all = 0;
        for (int i = 0; i < 6; i++) {
            all = all << 5 | 26;
        }
        Kit.due("zzzzzz", x.named(0, all), 2);
        Kit.due("az", x.named(1, 1 << 25 | 26 << 20), 1);
        Kit.due("abcdef", x.named(2, 1 << 25 | 2 << 20 | 3 << 15 | 4 << 10 | 5 << 5 | 6), 0);
        Kit.due("b", x.named(2, 2 << 25), 1);
        Kit.due("aa", x.named(3, 33 << 20), 0);
        Kit.due("aaaaaa", x.named(3, 33 << 20 | 33 << 10 | 33), 1);
        Kit.due("aaa", x.named(3, 33 << 20 | 1 << 15), NONE);
        Kit.due("no letters", x.named(0, 0), NONE);
        Kit.due("the last letter alone", x.named(0, 1), NONE);
        Kit.due("a hole in it", x.named(3, 1 << 25 | 1 << 15), NONE);
        Kit.due("a bit above", x.named(0, 1 << 25 | 1 << 30), NONE);
        Kit.due("the sign", x.named(0, 1 << 25 | 1 << 31), NONE);
        Kit.due("all bits", x.named(3, -1), NONE);
        for (int what : new int[] {4, -1, Integer.MIN_VALUE, Integer.MAX_VALUE}) {
            Kit.due("what " + what, x.named(what, 1 << 25), NONE);
        }
    }

    private void toolsAreOneKind() {
        doc.says(5, "a LADDER and a POLE may not be called alike.");
        Kit.faultyAt("ladder a 4;pole ^a 4 0;", 3);
        Kit.faultyAt("pole a 4 0;ladder ^a 4;", 3);
        Kit.faultyAt("pole abcdef 4 0;ladder b 4;ladder ^abcdef 4;", 3);
        Kit.fine("ladder a 4;pole aa 4 0;", 2);
    }

    private void linesEndBySemicolon() {
        doc.says(Doc.TERMS, "A TEXT: { LINE ';' }.");
        Kit.fine("", 0);
        Kit.fine(" \n", 0);
        Kit.fine("tank 1 1;", 1);
        Kit.fine("tank 1 1;wet 1;", 2);
        Kit.faultyAt("^;", 1);
        Kit.faultyAt("tank 1 1;^;", 1);
        Kit.faultyAt("tank 1 1;wet 1^", 1);
        Kit.faultyAt("tank 1 1 ^wet 1;", 1);
        Kit.faultyAt("^pane 0 1;", 1);
        Kit.faultyAt("^to 1;", 1);
        Kit.faultyAt("^7;", 1);
        Kit.faultyAt("^zz;", 1);
    }

    private void linesAreWhole() {
        doc.says(Doc.TERMS, "LINE: ladder W N | pole W N N | front W N N { pane N N | block N | soft N } | man W N N N"
                + " | house W W W N N N { not N | price N | dog | from N | home N } | wet N [ to N ] | complain E | trust E | tank N N.");
        for (String line : LINES) {
            StringBuilder said = new StringBuilder(HEAD);
            for (String part : line.split(" ")) {
                String token = part.replace(".", "");
                // a token of another kind can't stand in its place (in an E every kind but a strange word can)
                boolean strange = Character.isDigit(token.charAt(0)) || token.equals("day");
                Kit.faultyAt(said + "^" + (strange ? "zz" : "5") + ";", 1);
                said.append(token);
                Kit.faultyAt(said + "^", 1);
                if (part.endsWith(".")) {
                    Kit.fine(said + ";", 3);
                    Kit.faultyAt(said + " ^7;", 1);
                    Kit.faultyAt(said + " ^zz;", 1);
                } else {
                    Kit.faultyAt(said + "^;", 1);
                }
                said.append(' ');
            }
        }
    }

    private void wordsOfOneToSixLetters() {
        doc.says(Doc.TERMS, "Words: small letters in a row; W: one of 1 .. 6 letters, none of those of the language;");
        String[] told = {"ladder # 4;", "pole # 4 0;", "front # 1 1;", "man # 0 0 10;", HEAD + "house # f m 0 0 1;"};
        for (String line : told) {
            int lines = line.split(";").length;
            Kit.fine(line.replace("#", "q"), lines);
            Kit.fine(line.replace("#", "qwerty"), lines);
            Kit.faultyAt(line.replace("#", "^qwertyu"), 1);
            Kit.faultyAt(line.replace("#", "^Q"), 1);
            Kit.faultyAt(line.replace("#", "q^W"), 1);
            // behind a HOUSE's name another W may stand, but none that isn't a FRONT
            boolean named = line.startsWith(HEAD);
            Kit.faultyAt(line.replace("#", "q ^w"), named ? 4 : 1);
            if (!named) {
                Kit.faultyAt(line.replace("# ", "^"), 1);
            }
            for (String word : LANGUAGE.split(" ")) {
                Kit.faultyAt(line.replace("#", "^" + word), 1);
                if (word.length() < 6) {
                    Kit.fine(line.replace("#", word + "q"), lines);
                }
            }
        }
        for (String word : LANGUAGE.split(" ")) {
            Kit.faultyAt(HEAD + "house h ^" + word + " m 0 0 1;", 1);
            Kit.faultyAt(HEAD + "house h f ^" + word + " 0 0 1;", 1);
        }
        Kit.faultyAt("ladder a^\u00e9 4;", 1);
        Kit.faultyAt("ladder ^` 4;", 1);
        Kit.faultyAt("ladder ^{ 4;", 1);
    }

    private void numbersAreDigits() {
        doc.says(Doc.TERMS, "N: digits.");
        Kit.fine("tank 0001 00000000000000000000000000000099;", 1);
        Kit.fine("tank" + "0".repeat(800) + "1 1;", 1);
        Kit.faultyAt("tank ^" + "9".repeat(800) + " 1;", 2);
        Kit.faultyAt("tank ^4294967297 1;", 2);
        Kit.faultyAt("tank ^18446744073709551617 1;", 2);
        Kit.faultyAt("tank ^2147483648 1;", 2);
        Kit.faultyAt("tank ^-1 1;", 1);
        Kit.faultyAt("tank ^+1 1;", 1);
        Kit.faultyAt("tank 1 1^.0;", 1);
        Kit.faultyAt("tank ^: 1;", 1);
        Kit.fine("ladder a4;ladder b5;wet1to2;tank 1 1;", 4);
        Kit.faultyAt("tank 1^a 1;", 1);
    }

    private void onlyTwoBlanks() {
        doc.says(Doc.TERMS, "Blanks 10, 32.");
        Kit.fine("\n  tank\n\n1 \n 1\n;\n ", 1);
        for (int sign = 0; sign < 256; sign++) {
            if (sign != 10 && sign != 32 && (sign < '0' || sign > '9')) {
                Kit.faultyAt("tank 1^" + (char) sign + "1;", 1);
            }
        }
    }

    private void orsAndAnds() {
        doc.says(Doc.TERMS, "E: A { or A }. A: B { and B }.");
        knots("1 or 2 or 3", 5);
        knots("1 and 2 and 3", 5);
        knots("1 and 2 or 3 and 4", 7);
        Kit.faultyAt("trust ^or 1;", 1);
        Kit.faultyAt("trust 1 or^;", 1);
        Kit.faultyAt("trust 1 or ^or 1;", 1);
        Kit.faultyAt("trust 1 and ^or 1;", 1);
        Kit.faultyAt("trust ^and 1;", 1);
        Kit.faultyAt("trust 1 and^", 1);
        Kit.faultyAt("trust ^;", 1);
        Kit.faultyAt("trust^", 1);
    }

    private void notsAndComparisons() {
        doc.says(Doc.TERMS, "B: not B | C. C: S [ ( < | <= | = | <> | >= | > ) S ].");
        knots("not not not 1", 4);
        knots("1 and not 2 or not 3", 7);
        knots("not 1 < 2", 4);
        Kit.faultyAt("trust not^;", 1);
        Kit.faultyAt("trust not ^and 1;", 1);
        Kit.faultyAt("trust 1 ^not 1;", 1);
        for (String sign : "< <= = <> >= >".split(" ")) {
            knots("1" + sign + "2", 3);
            Kit.faultyAt("trust 1" + sign + "2^" + sign + "3;", 1);
            Kit.faultyAt("trust 1" + sign + "2+3*4^" + sign + "3;", 1);
            Kit.faultyAt("trust 1" + sign + "^not 2;", 1);
            Kit.faultyAt("trust ^" + sign + "2;", 1);
            Kit.faultyAt("trust 1" + sign + "^;", 1);
            knots("(1" + sign + "2)" + sign + "3", 5);
            knots("1" + sign + "(2" + sign + "3)", 5);
            knots("1" + sign + "2 and 3" + sign + "4 or 5" + sign + "6", 11);
        }
    }

    private void sumsAndProducts() {
        doc.says(Doc.TERMS, "S: T { ( + | - ) T }. T: P { ( * | / ) P }.");
        knots("1+2-3+4", 7);
        knots("1*2/3*4", 7);
        for (String sign : "+ - * /".split(" ")) {
            Kit.faultyAt("trust ^" + sign + "1;", 1);
            Kit.faultyAt("trust 1" + sign + "^;", 1);
            Kit.faultyAt("trust 1" + sign + "^" + sign + "1;", 1);
            Kit.faultyAt("trust 1" + sign + "^not 1;", 1);
            Kit.faultyAt("trust 1=^" + sign + "1;", 1);
        }
    }

    private void valuesOfRules() {
        doc.says(Doc.TERMS, "P: N | NAME | '(' E ')'; N of E 0 .. 9999.");
        doc.says(Doc.TERMS, "NAME: waits owes times price every day.");
        knots("0", 1);
        knots("9999", 1);
        knots("0009999", 1);
        Kit.faultyAt("trust ^10000;", 2);
        Kit.faultyAt("trust 1+^4294967296;", 2);
        knots("waits+owes+times+price+every+day", 11);
        knots("(((1 or 2)))", 3);
        knots("(not 1)+(1<2)", 6);
        Kit.faultyAt("trust (^);", 1);
        Kit.faultyAt("trust (1^;", 1);
        Kit.faultyAt("trust (1^", 1);
        Kit.faultyAt("trust 1^);", 1);
        Kit.faultyAt("trust (1)^);", 1);
        Kit.faultyAt("trust 1^(2);", 1);
        Kit.faultyAt("trust (1)^(2);", 1);
        Kit.faultyAt("trust (1)^2;", 1);
        Kit.faultyAt("trust (1 ^2);", 1);
        Kit.faultyAt("trust day ^day;", 1);
        for (String word : "ladder pole front pane block soft man house dog from home wet to complain trust tank q".split(" ")) {
            Kit.faultyAt("trust ^" + word + ";", 1);
            Kit.faultyAt("trust 1 ^" + word + ";", 1);
        }
    }

    private void signsOfTwo() {
        doc.says(Doc.TERMS, "A = (or > behind <) right behind < or > belongs to it.");
        knots("1<=2", 3);
        knots("1>=2", 3);
        knots("1<>2", 3);
        Kit.faultyAt("trust 1< ^=2;", 1);
        Kit.faultyAt("trust 1> ^=2;", 1);
        Kit.faultyAt("trust 1< ^>2;", 1);
        Kit.faultyAt("trust 1<\n^=2;", 1);
        Kit.faultyAt("trust 1>^<2;", 1);
        Kit.faultyAt("trust 1>^>2;", 1);
        Kit.faultyAt("trust 1<^<2;", 1);
        Kit.faultyAt("trust 1=^<2;", 1);
        Kit.faultyAt("trust 1=^>2;", 1);
        Kit.faultyAt("trust 1=^=2;", 1);
        Kit.faultyAt("trust 1<=^=2;", 1);
        Kit.faultyAt("trust 1<>^=2;", 1);
        Kit.faultyAt("trust 1<=^>2;", 1);
        Kit.faultyAt("trust 1>=^=2;", 1);
        for (String sign : "< > = <= >= <>".split(" ")) {
            Kit.faultyAt("trust 1" + sign + "^", 1);
        }
        // the tape goes on behind the text: its = doesn't belong to it
        PaneRounds x = new PaneRounds();
        Kit.lay(x, "trust 1<=2;");
        Kit.due("cut behind <", x.text(8), NONE);
        Kit.due("its place", x.fault(1), 8);
    }

    private static void knots(String rule, int knots) {
        Kit.due("knots of " + rule, Kit.told("trust " + rule + ";").count(7), knots);
        Kit.due("knots of complain " + rule, Kit.told("complain " + rule + ";").count(7), knots);
    }
}
