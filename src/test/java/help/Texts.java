import java.util.Random;

/** Texts that tell a hall, most of them nearly right. */
final class Texts {
    private Texts() {
    }

    static String some(Random random, int oddOf) {
        StringBuilder text = new StringBuilder();
        int items = random.nextInt(6);
        for (int i = 0; i < items; i++) {
            item(random, oddOf, text);
        }
        for (int i = 0; i < 2; i++) {
            if (text.length() > 0 && random.nextInt(oddOf) < 2) {
                spoil(random, text);
            }
        }
        return text.toString();
    }

    private static void item(Random random, int oddOf, StringBuilder text) {
        String[] words = {"one", "try", "ask", "here", "falls"};
        int[][] most = {{5, 5, 5, 20, 9}, {5, 20, 20}, {4, 9}, {5}, {99}};
        int[][] least = {{1, 0, 0, 0, 1}, {0, 1, 1}, {0, 0}, {0}, {1}};
        int what = random.nextInt(words.length);
        blanks(random, text, 0);
        text.append(words[what]);
        if (what == 0) {
            blanks(random, text, 1);
            int letters = 1 + random.nextInt(random.nextInt(oddOf) == 0 ? 9 : 7);
            for (int k = 0; k < letters; k++) {
                text.append((char) ('a' + random.nextInt(26)));
            }
        }
        for (int k = 0; k < most[what].length; k++) {
            int v = least[what][k] + random.nextInt(most[what][k] - least[what][k] + 1);
            v = random.nextInt(5 * oddOf) == 0 ? random.nextInt(120) : v;
            blanks(random, text, k == 0 ? 0 : 1);
            text.append(v < 10 && random.nextInt(8) == 0 ? "0" : "").append(v);
        }
        blanks(random, text, 0);
        text.append(';');
        blanks(random, text, 0);
    }

    private static void blanks(Random random, StringBuilder text, int least) {
        int n = least + (random.nextInt(4) == 0 ? random.nextInt(3) : 0);
        for (int i = 0; i < n; i++) {
            text.append(' ');
        }
    }

    private static void spoil(Random random, StringBuilder text) {
        int at = random.nextInt(text.length());
        String odd = ";;  19azAZ-+.\t\n\0{`/:" + (char) 128 + (char) 255;
        char c = odd.charAt(random.nextInt(odd.length()));
        switch (random.nextInt(4)) {
            case 0:
                text.deleteCharAt(at);
                break;
            case 1:
                text.insert(at, c);
                break;
            case 2:
                text.setCharAt(at, c);
                break;
            default:
                text.setLength(at);
        }
    }
}
