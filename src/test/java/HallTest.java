/** Promises 1 to 8: a new object, what is told, what is held, days that go by and are undone. */
public final class HallTest {
    private static final int MAX = Integer.MAX_VALUE, MIN = Integer.MIN_VALUE;

    public static void main(String[] args) {
        Due d = new Due("HallTest");
        newObject(d);
        one(d);
        wrongNames(d);
        put(d);
        addTry(d);
        held(d);
        think(d);
        days(d);
        undo(d);
        undoOfAllThatWasTold(d);
        d.end();
    }

    private static void newObject(Due d) {
        TongueTip x = new TongueTip();
        for (int what = 0; what <= 5; what++) {
            d.due("count of a new one", x.count(what), 0);
        }
        for (int what = 0; what <= 2; what++) {
            d.due("status of a new one", x.status(what), 0);
        }
        d.fraction("a new one", x, 0, 1);
        for (int part = 0; part < 5; part++) {
            d.due("has of a new one", x.has(part, -1), -1);
        }
        int[] first = {0, 7, 0, 3, 6, 8, 9, 10};
        for (int what = 0; what < 8; what++) {
            d.due("put of a new one " + what, x.put(what, first[what]), first[what]);
        }
        d.due("undo of a new one", x.undo(), -3);
        d.due("from of a new one", x.from(0), -3);
        d.due("from of a new one", x.from(1), -3);
        d.due("clear of a new one", x.clear(), 0);
    }

    private static void one(Due d) {
        TongueTip x = new TongueTip();
        d.due("one, all least", x.one(Due.name("a"), 1, 0, 0, 0, 1), 0);
        d.due("one, all most", x.one(Due.name("zzzzzzz"), 5, 5, 5, 20, 9), 1);
        long name = Due.name("rita");
        int[][] wrong = {
            {0, 1, 1, 1, 1}, {6, 1, 1, 1, 1}, {MIN, 1, 1, 1, 1}, {MAX, 1, 1, 1, 1},
            {1, -1, 1, 1, 1}, {1, 6, 1, 1, 1}, {1, 1, -1, 1, 1}, {1, 1, 6, 1, 1},
            {1, 1, 1, -1, 1}, {1, 1, 1, 21, 1}, {1, 1, 1, 1, 0}, {1, 1, 1, 1, 10},
        };
        for (int[] w : wrong) {
            d.due("one, wrong", x.one(name, w[0], w[1], w[2], w[3], w[4]), -2);
        }
        d.due("people behind wrong ones", x.count(0), 2);
        for (int i = 2; i < 12; i++) {
            d.due("one more", x.one(name, 1, 1, 1, 1, 1), i);
        }
        d.due("one, too many", x.one(name, 1, 1, 1, 1, 1), -4);
        d.due("one, BAD ahead of FULL", x.one(name, 0, 1, 1, 1, 1), -2);
        d.due("people", x.count(0), 12);
        d.due("BAD ones", x.status(0), wrong.length + 1);
        d.due("FULL ones", x.status(2), 1);
    }

    private static void wrongNames(Due d) {
        TongueTip x = new TongueTip();
        long[] wrong = {0, -1, Long.MIN_VALUE, Long.MAX_VALUE, 27, 31, 32, 1L << 35, 1L << 32,
            Due.name("a") << 5, Due.name("zzzzzzz") + 1, 32 * 32 + 5, 32 * 28 + 1, 32L * Due.name("zzzzzzz") + 1,
            -Due.name("rita"), Long.MIN_VALUE + Due.name("rita"), (1L << 40) + Due.name("rita")};
        for (long w : wrong) {
            d.due("one, wrong name " + w, x.one(w, 1, 1, 1, 1, 1), -2);
        }
        for (int letters = 1; letters <= 7; letters++) {
            d.due("one of some letters", x.one(Due.name("abcdefg".substring(0, letters)), 1, 1, 1, 1, 1), letters - 1);
            x.has(1, letters);
            d.due("as many letters", x.whose(), 1 << letters - 1);
        }
    }

    private static void put(Due d) {
        TongueTip x = new TongueTip();
        int[] least = {0, 1, 0, 0, 0, 0, 0, 0};
        int[] most = {5, 99, 60, 20, 20, 20, 20, 20};
        int[] first = {0, 7, 0, 3, 6, 8, 9, 10};
        for (int what = 0; what < 8; what++) {
            d.due("put most", x.put(what, most[what]), first[what]);
            d.due("put less than least", x.put(what, least[what] - 1), -2);
            d.due("put more than most", x.put(what, most[what] + 1), -2);
            d.due("put a huge one", x.put(what, MAX), -2);
            d.due("put a tiny one", x.put(what, MIN), -2);
            d.due("put least", x.put(what, least[what]), most[what]);
            d.due("put least again", x.put(what, least[what]), least[what]);
        }
        d.due("put nothing", x.put(-1, 1), -2);
        d.due("put nothing", x.put(8, 1), -2);
        d.due("put nothing", x.put(MAX, 1), -2);
        d.due("put nothing", x.put(MIN, 1), -2);
        d.due("BAD ones", x.status(0), 8 * 4 + 4);
    }

    private static void addTry(Due d) {
        TongueTip x = new TongueTip();
        int[][] wrong = {{-1, 1, 1}, {6, 1, 1}, {0, 0, 1}, {0, 21, 1}, {0, 1, 0}, {0, 1, 21},
            {MAX, 1, 1}, {0, MAX, 1}, {0, 1, MAX}, {MIN, 1, 1}, {0, MIN, 1}, {0, 1, MIN}};
        for (int[] w : wrong) {
            d.due("addTry, wrong", x.addTry(w[0], w[1], w[2]), -2);
        }
        d.due("addTry", x.addTry(0, 1, 1), 0);
        d.due("addTry", x.addTry(5, 20, 20), 1);
        d.due("addTry", x.addTry(1, 1, 20), 2);
        d.due("addTry", x.addTry(3, 20, 1), 3);
        d.due("addTry", x.addTry(3, 20, 1), 4);
        d.due("addTry, too many", x.addTry(2, 2, 2), -4);
        d.due("addTry, BAD ahead of FULL", x.addTry(6, 2, 2), -2);
        d.due("tries", x.count(1), 5);
        d.due("BAD ones", x.status(0), wrong.length + 1);
        d.due("FULL ones", x.status(2), 1);
    }

    private static void held(Due d) {
        TongueTip x = new TongueTip();
        x.one(Due.name("rita"), 2, 1, 1, 12, 4);
        int[][] due = {{0, 12}, {6, 12}, {7, 11}, {13, 11}, {14, 10}, {77, 1}, {83, 1}, {84, 0}, {999, 0}};
        for (int[] w : due) {
            d.due("held in days " + w[0], x.held(0, w[0]), w[1]);
        }
        d.due("held, wrong", x.held(0, -1), -2);
        d.due("held, wrong", x.held(0, 1000), -2);
        d.due("held, wrong", x.held(1, 0), -2);
        d.due("held, wrong", x.held(-1, 0), -2);
        d.due("held, wrong", x.held(MAX, MAX), -2);
        d.due("held, wrong", x.held(MIN, MIN), -2);
        d.due("days", x.days(10), 10);
        d.due("held on day 10", x.held(0, 0), 11);
        d.due("held 4 days on", x.held(0, 4), 10);
        x.one(Due.name("rosa"), 2, 1, 1, 12, 4);
        d.due("held by one told on day 10", x.held(1, 6), 12);
        d.due("held by one told on day 10", x.held(1, 7), 11);
        x.put(1, 1);
        d.due("falls by 1", x.held(0, 0), 2);
        x.put(1, 99);
        d.due("falls by 99", x.held(0, 88), 12);
        d.due("falls by 99", x.held(0, 89), 11);
        x.days(989);
        d.due("held on the last day, 999 on", x.held(1, 999), 12 - 1988 / 99 > 0 ? 12 - 1988 / 99 : 0);
        d.due("held changes nothing", x.held(0, 0), 12 - 999 / 99);
    }

    private static void think(Due d) {
        TongueTip x = new TongueTip();
        x.one(Due.name("rita"), 2, 1, 1, 12, 4);
        d.due("think", x.think(0), 15);
        d.due("think", x.think(0), 18);
        d.due("think, 20 at most", x.think(0), 20);
        d.due("think", x.think(0), 20);
        d.due("may be undone, 4 at most", x.count(4), 4);
        x.days(20);
        d.due("held", x.held(0, 0), 18);
        d.due("held", x.held(0, 1), 17);
        d.due("think", x.think(0), 20);
        d.due("held anew from that day", x.held(0, 6), 20);
        x.days(300);
        d.due("think of one gone", x.think(0), 3);
        d.due("think, wrong", x.think(1), -2);
        d.due("think, wrong", x.think(-1), -2);
        d.due("think, wrong", x.think(MAX), -2);
        d.due("think, wrong", x.think(MIN), -2);
        d.due("undo", x.undo(), 1);
        d.due("held as ahead", x.held(0, 0), 0);
    }

    private static void days(Due d) {
        TongueTip x = new TongueTip();
        d.due("days, wrong", x.days(0), -2);
        d.due("days, wrong", x.days(-1), -2);
        d.due("days, wrong", x.days(1000), -2);
        d.due("days, wrong", x.days(MAX), -2);
        d.due("days, wrong", x.days(MIN), -2);
        d.due("nothing to undo", x.count(4), 0);
        d.due("days", x.days(1), 1);
        d.due("days, beyond", x.days(999), -3);
        d.due("days", x.days(998), 999);
        d.due("days, beyond", x.days(1), -3);
        d.due("days, BAD ahead of NO", x.days(0), -2);
        d.due("two may be undone", x.count(4), 2);
        d.due("NO", x.status(1), 2);
        d.due("BAD", x.status(0), 6);
        x = new TongueTip();
        d.due("all days at once", x.days(999), 999);
    }

    private static void undo(Due d) {
        TongueTip x = new TongueTip();
        for (int i = 1; i <= 6; i++) {
            d.due("days", x.days(i), i * (i + 1) / 2);
            d.due("may be undone", x.count(4), Math.min(4, i));
        }
        int[] ahead = {15, 10, 6, 3};
        for (int i = 0; i < 4; i++) {
            d.due("undo", x.undo(), 1);
            d.due("the day", x.count(5), ahead[i]);
            d.due("may be undone", x.count(4), 3 - i);
        }
        d.due("undo, none left", x.undo(), -3);
        d.due("the day", x.count(5), 3);
        d.due("days anew", x.days(100), 103);
        d.due("days anew", x.days(100), 203);
        d.due("undo", x.undo(), 1);
        d.due("days anew", x.days(7), 110);
        d.due("undo", x.undo(), 1);
        d.due("undo", x.undo(), 1);
        d.due("the day", x.count(5), 3);
        d.due("undo, none left", x.undo(), -3);
        d.due("NO", x.status(1), 2);
    }

    private static void undoOfAllThatWasTold(Due d) {
        TongueTip x = new TongueTip();
        x.one(Due.name("rita"), 2, 1, 1, 12, 4);
        x.addTry(0, 3, 10);
        x.question(1, 3);
        x.put(0, 2);
        x.has(3, 1);
        long digest = x.digest();
        x.days(9);
        x.one(Due.name("rosa"), 2, 1, 1, 12, 4);
        x.addTry(0, 4, 10);
        x.question(2, 3);
        for (int what = 0; what < 8; what++) {
            x.put(what, 5);
        }
        for (int part = 0; part < 5; part++) {
            x.has(part, 2);
        }
        x.image(0);
        x.think(7);
        x.undo();
        d.due("as ahead of the days", x.digest(), digest);
        d.due("what was refused stays", x.status(0), 1);
        d.due("an image stays", x.from(0), 1);
        d.due("as the image was", x.count(0), 2);
        textAndFractionStay(d);
    }

    private static void textAndFractionStay(Due d) {
        TongueTip x = new TongueTip();
        x.one(Due.name("rita"), 2, 1, 1, 12, 4);
        x.addTry(0, 3, 10);
        x.type(1, 3);
        x.days(1);
        x.type(1, 3);
        x.comes(0, 1);
        x.undo();
        d.due("THE TEXT is not undone", x.count(3), 6);
        d.fraction("undo", x, 3, 10);
    }
}
