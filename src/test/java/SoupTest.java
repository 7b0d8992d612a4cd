import java.util.Random;

/** Promises 3 and 4 on texts that are nearly right: lines with tokens put wrong, read by PaneRounds and SlowRounds alike. */
public final class SoupTest {
    private static final String[] LINES = {"ladder @ #", "pole @ # #", "front @ # # pane # # pane # # block # soft # block #",
        "man @ # # 60", "house @ @ @ # # # not # price # dog from # home # not #", "wet # to #", "complain $", "trust $", "tank # #",
        "front @ 3 9 pane 1 # pane 1 # soft # soft #", "house @ a b 1 2 3 home # home # price 5 dog", "man @ 1 1 99", "front @ 2 2"};
    private static final String[] TOKENS = {"ladder", "pole", "front", "man", "house", "wet", "complain", "trust", "tank", "pane",
        "block", "soft", "dog", "from", "home", "to", "not", "or", "and", "waits", "owes", "times", "price", "every", "day", "a", "b",
        "abcdef", "abcdefg", "0", "1", "9", "10", "40", "9999", "10000", "123456789012", ";", "(", ")", "<", "<=", "=", "<>", ">=", ">",
        "+", "-", "*", "/", "!", "\n", "\t", "A"};

    private SoupTest() {
    }

    public static void main(String[] args) {
        int texts = args.length > 0 ? Integer.parseInt(args[0]) : 20000;
        Random random = new Random(7);
        PaneRounds x = new PaneRounds();
        SlowRounds y = new SlowRounds();
        for (int i = 0; i < texts && !Kit.isWrong(); i++) {
            String text = makeText(random);
            int n = text.length();
            Kit.lay(x, text);
            laySlowly(y, text);
            Kit.due("text '" + text + "'", x.text(n), y.text(n));
            Kit.due("fault(0) of '" + text + "'", x.fault(0), y.fault(0));
            Kit.due("fault(1) of '" + text + "'", x.fault(1), y.fault(1));
            for (int what = 0; what < 13; what++) {
                Kit.due("count(" + what + ") of '" + text + "'", x.count(what), y.count(what));
            }
        }
        Kit.end();
    }

    private static void laySlowly(SlowRounds y, String text) {
        for (int at = 0; at < text.length(); at += 20) {
            int[] n = new int[5];
            for (int i = 0; i < 20; i++) {
                n[i / 4] = n[i / 4] << 8 | (at + i < text.length() ? text.charAt(at + i) : 32);
            }
            y.feed(n[0], n[1], n[2], n[3], n[4]);
        }
    }

    private static String makeText(Random random) {
        StringBuilder b = new StringBuilder(random.nextInt(3) > 0 ? "front a 4 4;man b 0 0 20;" : "");
        int odd = 5 + random.nextInt(60);
        for (int lines = random.nextInt(random.nextInt(8) == 0 ? 30 : 8); lines >= 0; lines--) {
            for (String part : LINES[random.nextInt(LINES.length)].split(" ")) {
                if (random.nextInt(odd) == 0) {
                    b.append(TOKENS[random.nextInt(TOKENS.length)]).append(' ');
                }
                if (random.nextInt(odd) > 0) {
                    b.append(fill(part, random)).append(random.nextInt(6) == 0 ? "\n" : " ");
                }
            }
            b.append(';');
        }
        return b.length() > 900 ? b.substring(0, 900) : b.toString();
    }

    private static String fill(String part, Random random) {
        return switch (part) {
            case "@" -> "" + (char) ('a' + random.nextInt(random.nextInt(2) == 0 ? 3 : 26));
            case "#" -> "" + random.nextInt(random.nextInt(12) == 0 ? 30 : 8);
            case "$" -> makeRule(random);
            default -> part;
        };
    }

    private static String makeRule(Random random) {
        StringBuilder b = new StringBuilder();
        int open = 0;
        for (int i = random.nextInt(random.nextInt(4) == 0 ? 36 : 6); i >= 0; i--) {
            for (int k = random.nextInt(4); k == 1 || k == 2; k = random.nextInt(4)) {
                b.append(k == 1 ? "(" : "not ");
                open += k == 1 ? 1 : 0;
            }
            b.append(TOKENS[19 + random.nextInt(6)]);
            for (; open > 0 && random.nextInt(3) == 0; open--) {
                b.append(')');
            }
            int sign = random.nextInt(13);
            b.append(i == 0 ? ")".repeat(open) : sign < 3 ? " or " : sign < 6 ? " and " : TOKENS[40 + random.nextInt(10)]);
        }
        return b.toString();
    }
}
