/** Promises 23 and 24: a NIGHT of learning, and BOTH at a loss. */
public final class NightTest {
    private static final int MAX = Integer.MAX_VALUE, MIN = Integer.MIN_VALUE;

    public static void main(String[] args) {
        Due d = new Due("NightTest");
        learn(d);
        likeOnes(d);
        wrong(d);
        laws(d);
        jobInPlace(d);
        allTwelve(d);
        rests(d);
        allRests(d);
        d.end();
    }

    private static void learn(Due d) {
        TongueTip x = new TongueTip();
        d.due("nobody", x.learn(0, 99, -1), 0);
        x.one(Due.name("rita"), 1, 0, 1, 5, 1);
        x.one(Due.name("al"), 1, 0, 1, 5, 1);
        int[] most = {5, 5, 5, 5, 8, 8, 8, 8, 11, 11, 11, 11, 13, 13, 13, 13, 14, 14, 14, 14, 15, 15};
        int[] times = {0, 0, 0, 0, 1, 1, 1, 1, 2, 2, 2, 2, 3, 3, 3, 3, 4, 4, 4, 4, 5, 5};
        for (int minutes = 0; minutes < most.length; minutes++) {
            d.due("one alone in " + minutes, x.learn(1, minutes, -1), most[minutes]);
            d.due("how often in " + minutes, x.learn(1, minutes, 0), times[minutes]);
        }
        // in 8: al 4 times 9, or rita once 3 and al twice 6: nine as well, or rita none, al 4
        d.due("two in 8", x.learn(3, 8, -1), 10 + 9);
        d.due("rita as few as can be", x.learn(3, 8, 0), 0);
        d.due("al then", x.learn(3, 8, 1), 4);
        d.due("two in 10", x.learn(3, 10, -1), 10 + 11);
        d.due("rita in 10", x.learn(3, 10, 0), 1);
        d.due("al in 10", x.learn(3, 10, 1), 3);
        x.days(13);
        d.due("HELD now", x.learn(3, 0, -1), 8);
        x.days(1);
        d.due("HELD now", x.learn(3, 0, -1), 6);
        x.think(0);
        d.due("HELD now", x.learn(3, 0, -1), 9);
        d.fraction("learn", x, 0, 1);
    }

    private static void likeOnes(Due d) {
        TongueTip x = new TongueTip();
        for (int i = 0; i < 4; i++) {
            x.one(Due.name("ab"), 1, 0, 1, 5, 1);
        }
        d.due("four in 6", x.learn(15, 6, -1), 29);
        int[] times = {0, 0, 1, 2};
        for (int i = 0; i < 4; i++) {
            d.due("times of " + i, x.learn(15, 6, i), times[i]);
        }
        d.due("some of them in 6", x.learn(5, 6, -1), 19);
        d.due("times of 0", x.learn(5, 6, 0), 1);
        d.due("times of 2", x.learn(5, 6, 2), 2);
        d.due("one that is not of these", x.learn(5, 6, 1), -10);
        TongueTip y = new TongueTip();
        y.one(Due.name("a"), 1, 0, 1, 19, 1);
        d.due("20 at most", y.learn(1, 99, -1), 20);
        d.due("not oftener than needed", y.learn(1, 99, 0), 1);
        y = new TongueTip();
        y.one(Due.name("a"), 1, 0, 1, 20, 1);
        d.due("20 at most", y.learn(1, 99, -1), 20);
        d.due("not oftener than needed", y.learn(1, 99, 0), 0);
    }

    private static void wrong(Due d) {
        TongueTip x = new TongueTip();
        x.one(Due.name("rita"), 1, 0, 1, 5, 1);
        x.one(Due.name("al"), 1, 0, 1, 5, 1);
        int[][] wrong = {
            {-1, 5, -1}, {4, 5, -1}, {5, 5, 0}, {MAX, 5, -1}, {MIN, 5, -1}, {3, -1, -1}, {3, 100, -1}, {3, MAX, -1},
            {3, MIN, -1}, {3, 5, -2}, {3, 5, 2}, {2, 5, 0}, {1, 5, 1}, {0, 5, 0}, {3, 5, 32}, {3, 5, 33}, {3, 5, MAX}, {3, 5, MIN},
        };
        for (int[] w : wrong) {
            d.due("learn, wrong " + w[0] + " " + w[1] + " " + w[2], x.learn(w[0], w[1], w[2]), -10);
        }
        d.due("BAD", x.status(0), wrong.length);
        d.due("NO, FULL", x.status(1) + x.status(2), 0);
        d.due("at the edges", x.learn(3, 99, -1), 30);
        d.due("at the edges", x.learn(0, 0, -1), 0);
    }

    private static void laws(Due d) {
        TongueTip x = new TongueTip();
        x.one(Due.name("ab"), 1, 0, 1, 5, 1);
        x.put(3, 0);
        x.put(4, 9);
        x.put(5, 2);
        x.put(6, 9);
        x.put(7, 1);
        d.due("laws that fall again", x.learn(1, 10, -1), 14);
        d.due("laws that fall again", x.learn(1, 10, 0), 2);
        d.due("said in vain", x.learn(1, 3, -1), 5);
        d.due("said in vain", x.learn(1, 3, 0), 0);
        x.put(7, 20);
        d.due("the law of 5", x.learn(1, 10, -1), 20);
        d.due("the law of 5", x.learn(1, 10, 0), 5);
        d.due("a minute too few", x.learn(1, 9, 0), 2);
    }

    private static void jobInPlace(Due d) {
        TongueTip x = new TongueTip();
        x.one(Due.name("ab"), 1, 3, 3, 5, 1);
        x.one(Due.name("ab"), 1, 3, 2, 5, 1);
        d.due("not said", x.learn(3, 1, -1), 10);
        d.due("said", x.learn(3, 2, -1), 15);
        d.due("said", x.learn(3, 2, 0), 1);
        d.due("said twice", x.learn(1, 4, -1), 13);
        for (int what = 3; what <= 7; what++) {
            x.put(what, 0);
        }
        d.due("said at all", x.learn(3, 99, -1), 12);
        d.due("once", x.learn(3, 99, 0), 1);
        d.due("never", x.learn(3, 99, 1), 0);
        x.one(Due.name("ab"), 1, 3, 3, 19, 1);
        d.due("20 at most", x.learn(4, 99, -1), 20);
    }

    private static void allTwelve(Due d) {
        TongueTip x = new TongueTip();
        for (int i = 0; i < 12; i++) {
            x.one(Due.name("abcdefg"), 1, 0, 1, 0, 1);
        }
        // 14 sayings of 7 minutes: each gives 3, once or twice of one
        d.due("all twelve", x.learn(4095, 99, -1), 14 * 3);
        int[] times = {0, 0, 0, 0, 0, 2, 2, 2, 2, 2, 2, 2};
        for (int i = 0; i < 12; i++) {
            d.due("times of " + i, x.learn(4095, 99, i), times[i]);
        }
        d.due("the last alone", x.learn(2048, 35, -1), 10);
        d.due("the last alone", x.learn(2048, 35, 11), 5);
        d.due("not as said last", x.learn(1, 6, -1), 0);
        d.due("one more than there are", x.learn(4096, 99, -1), -10);
    }

    private static void rests(Due d) {
        TongueTip x = new TongueTip();
        int[][] due = {
            {0, 0, 7}, {20, 20, 8}, {20, 0, 2}, {0, 20, 4}, {14, 15, 4}, {15, 14, 2}, {1, 0, 6}, {10, 10, 6},
            {14, 14, 6}, {15, 15, 8}, {0, 14, 6}, {0, 15, 4}, {15, 0, 2},
        };
        for (int[] w : due) {
            d.due("rests " + w[0] + " " + w[1], x.rests(w[0], w[1]), w[2]);
        }
        int[][] wrong = {{-1, 0}, {0, -1}, {21, 0}, {0, 21}, {MAX, 0}, {0, MAX}, {MIN, MIN}};
        for (int[] w : wrong) {
            d.due("rests, wrong", x.rests(w[0], w[1]), -2);
        }
        d.due("BAD", x.status(0), wrong.length);
    }

    /** Each by its own words: to SAY costs 4 of 20 times KNOWN, both to WAIT 10 times not KNOWN. */
    private static void allRests(Due d) {
        TongueTip x = new TongueTip();
        for (int a = 0; a <= 20; a++) {
            for (int b = 0; b <= 20; b++) {
                int heSays = 4 * b, heWaits = 200 - 10 * b, sheSays = 4 * a, sheWaits = 200 - 10 * a;
                int bits = (heSays == 0 && sheSays == 0 ? 1 : 0)
                    + (heSays <= heWaits && sheSays >= 0 ? 2 : 0)
                    + (sheSays <= sheWaits && heSays >= 0 ? 4 : 0)
                    + (heWaits <= heSays && sheWaits <= sheSays ? 8 : 0);
                d.due("rests " + a + " " + b, x.rests(a, b), bits);
            }
        }
    }
}
