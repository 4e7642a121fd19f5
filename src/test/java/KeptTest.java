/** Promises 26 to 30: IMAGES, STATUS, how many there are, the digest. */
public final class KeptTest {
    private static final int MAX = Integer.MAX_VALUE, MIN = Integer.MIN_VALUE;

    public static void main(String[] args) {
        Due d = new Due("KeptTest");
        image(d);
        whatAnImageKeeps(d);
        status(d);
        count(d);
        digest(d);
        d.end();
    }

    private static void image(Due d) {
        TongueTip x = new TongueTip();
        int[] wrong = {-1, 2, MAX, MIN};
        for (int i : wrong) {
            d.due("image, wrong", x.image(i), -2);
            d.due("from, wrong", x.from(i), -2);
        }
        d.due("from, none kept", x.from(0), -3);
        d.due("from, none kept", x.from(1), -3);
        d.due("BAD", x.status(0), 8);
        d.due("NO", x.status(1), 2);
        x.days(5);
        d.due("image", x.image(1), 1);
        d.due("from, the other one", x.from(0), -3);
        x.days(5);
        d.due("image", x.image(0), 1);
        d.due("what may be undone stays", x.count(4), 2);
        x.days(5);
        d.due("from", x.from(1), 1);
        d.due("the day", x.count(5), 5);
        d.due("nothing may be undone", x.count(4), 0);
        d.due("undo", x.undo(), -3);
        d.due("from", x.from(0), 1);
        d.due("the day", x.count(5), 10);
        d.due("image anew", x.image(1), 1);
        x.days(1);
        d.due("from", x.from(1), 1);
        d.due("the day", x.count(5), 10);
        d.due("from once more", x.from(1), 1);
        d.due("the day", x.count(5), 10);
    }

    private static void whatAnImageKeeps(Due d) {
        TongueTip x = new TongueTip();
        x.one(Due.name("rita"), 2, 1, 1, 12, 4);
        x.addTry(0, 3, 10);
        x.question(1, 3);
        for (int what = 0; what < 8; what++) {
            x.put(what, 4);
        }
        x.put(2, 0);
        x.has(3, 1);
        x.type(5, 1);
        x.comes(0, 1);
        x.image(0);
        long digest = x.digest();
        x.one(Due.name("rosa"), 2, 1, 1, 12, 4);
        x.addTry(0, 4, 10);
        x.question(2, 3);
        for (int what = 0; what < 8; what++) {
            x.put(what, 5);
        }
        for (int part = 0; part < 5; part++) {
            x.has(part, 2);
        }
        x.think(0);
        x.days(7);
        x.from(0);
        d.due("as the image", x.digest(), digest);
        x.type(5, 2);
        x.comes(0, 0);
        x.think(9);
        x.image(1);
        x.from(0);
        d.due("THE TEXT stays", x.count(3), 3);
        d.fraction("from", x, 0, 1);
        d.due("STATUS stays", x.status(0), 1);
        d.due("the other image stays", x.from(1), 1);
        Due.read(x, "here 3;");
        d.due("an image stays behind read", x.from(0), 1);
        d.due("people", x.count(0), 1);
    }

    private static void status(Due d) {
        TongueTip x = new TongueTip();
        x.held(0, 0);
        x.days(0);
        d.due("BAD", x.status(0), 2);
        x.undo();
        d.due("NO", x.status(1), 1);
        for (int i = 0; i < 8; i++) {
            x.addTry(0, 1, 1);
        }
        d.due("FULL", x.status(2), 3);
        d.due("another", x.status(3), -1);
        d.due("another", x.status(-1), -1);
        d.due("another", x.status(MAX), -1);
        d.due("another", x.status(MIN), -1);
        d.due("another counts as BAD", x.status(0), 6);
        x.takenFor(8, 0);
        x.learn(0, 0, 0);
        x.has(5, 0);
        d.due("-10 counts as BAD", x.status(0), 9);
        x.takenFor(7, 0);
        x.index();
        x.image(0);
        x.whose();
        x.digest();
        Due.read(x, "here 9;");
        Due.read(x, "here;");
        d.due("no others count as BAD", x.status(0), 9);
        d.due("no others count as NO", x.status(1), 1);
        d.due("no others count as FULL", x.status(2), 3);
        x.next();
        x.ask();
        x.from(1);
        d.due("NO", x.status(1), 4);
    }

    private static void count(Due d) {
        TongueTip x = new TongueTip();
        x.one(Due.name("rita"), 2, 1, 1, 12, 4);
        x.addTry(0, 3, 10);
        x.addTry(0, 3, 10);
        x.question(1, 3);
        x.question(1, 3);
        x.question(1, 3);
        x.type(0, 4);
        x.days(5);
        x.think(0);
        int[] due = {1, 2, 3, 4, 2, 5};
        for (int what = 0; what < due.length; what++) {
            d.due("count " + what, x.count(what), due[what]);
        }
        int[] wrong = {-1, 6, MAX, MIN};
        for (int what : wrong) {
            d.due("count, wrong", x.count(what), -2);
        }
        d.due("BAD", x.status(0), wrong.length);
    }

    private static void digest(Due d) {
        TongueTip x = new TongueTip();
        long[] none = {0, 0, 0, 0, 0, 0, 0, 7, 0, 3, 6, 8, 9, 10, -1, -1, -1, -1, -1, 0, 1};
        d.due("digest of a new one", x.digest(), mixed(none));
        x.days(3);
        long rita = Due.name("rita"), bo = Due.name("bo");
        x.one(rita, 2, 1, 5, 12, 4);
        x.one(bo, 3, 0, 4, 13, 9);
        x.addTry(2, 3, 10);
        x.addTry(1, 4, 11);
        x.question(1, 8);
        x.question(4, 7);
        for (int what = 0; what < 8; what++) {
            x.put(what, 5 - what / 2);
        }
        x.has(0, 1);
        x.has(1, 2);
        x.has(2, 3);
        x.has(4, 4);
        x.type(0, 7);
        x.odds(1);
        x.has(3, 2);
        x.days(4);
        x.think(1);
        long[] full = {2, 2, 2, 7, 3, 7, rita, 2, 1, 5, 12, 4, 3, bo, 3, 0, 4, 16, 9, 7, 2, 3, 10, 1, 4, 11, 1, 8, 4, 7,
            5, 5, 4, 4, 3, 3, 2, 2, 1, 2, 3, 2, 4, 1, 1};
        d.due("digest of a full one", x.digest(), mixed(full));
        d.due("digest changes nothing", x.digest(), mixed(full));
    }

    private static long mixed(long[] values) {
        long h = 701;
        for (long v : values) {
            h = 31 * h + v;
        }
        return h;
    }
}
