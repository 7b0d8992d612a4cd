/** What the tests share: telling a text, and counting answers that are not as due. */
final class Kit {
    private static int asked = 0;
    private static int wrong = 0;

    private Kit() {
    }

    static void due(String call, long got, long want) {
        asked++;
        if (got != want) {
            wrong++;
            System.out.println(call + " answered " + got + ", due is " + want);
        }
    }

    /** Prints the count and ends with 1 if an answer was wrong. */
    static void end() {
        System.out.println(asked + " answers asked, " + wrong + " not as due");
        if (wrong != 0 || asked == 0) {
            System.exit(1);
        }
    }

    static boolean isWrong() {
        return wrong != 0;
    }

    /** Lays a text on the tape, twenty bytes at a time; what the last feed answered. */
    static int lay(PaneRounds x, String text) {
        int answer = 0;
        for (int at = 0; at < text.length(); at += 20) {
            int[] n = new int[5];
            for (int i = 0; i < 20; i++) {
                int sign = at + i < text.length() ? text.charAt(at + i) : ' ';
                n[i / 4] = n[i / 4] << 8 | sign & 255;
            }
            answer = x.feed(n[0], n[1], n[2], n[3], n[4]);
        }
        return answer;
    }

    static int tell(PaneRounds x, String text) {
        lay(x, text);
        return x.text(text.length());
    }

    static PaneRounds told(String text) {
        PaneRounds x = new PaneRounds();
        int lines = tell(x, text);
        if (lines < 0) {
            due("text of '" + text + "' (fault " + x.fault(0) + " at " + x.fault(1) + ")", lines, 0);
        }
        return x;
    }

    static int letters(String name) {
        int bits = 0;
        for (int i = 0; i < 6; i++) {
            bits = bits << 5 | (i < name.length() ? name.charAt(i) - 'a' + 1 : 0);
        }
        return bits;
    }

    /** The text has this fault at this place, and nothing else has changed by it. */
    static void faulty(String text, int fault, int place) {
        PaneRounds x = told("ladder keep 9;tank 7 8;");
        due("text of '" + text + "'", tell(x, text), PaneRounds.NONE);
        due("fault(0) of '" + text + "'", x.fault(0), fault);
        due("fault(1) of '" + text + "'", x.fault(1), place);
        due("count(0) behind '" + text + "'", x.count(0), 1);
        due("count(9) behind '" + text + "'", x.count(9), 7);
    }

    /** The fault is where the sign ^ stands (it is taken out first). */
    static void faultyAt(String marked, int fault) {
        int place = marked.indexOf('^');
        faulty(marked.substring(0, place) + marked.substring(place + 1), fault, place);
    }

    static void fine(String text, int lines) {
        PaneRounds x = new PaneRounds();
        due("text of '" + text + "'", tell(x, text), lines);
        due("fault(0) of '" + text + "'", x.fault(0), 0);
        due("fault(1) of '" + text + "'", x.fault(1), PaneRounds.NONE);
    }
}
