import java.util.ArrayList;
import java.util.List;

/**
 * Tests of the sentences that name an edge. Each begins with says(), which tells the sentence; behind
 * it stands at least one test of what a call answers there, what it counts and what it changes.
 */
final class Edge {
    static final int MAX = Integer.MAX_VALUE, MIN = Integer.MIN_VALUE;
    static final int BAD = 0, NO = 1, FULL = 2, NOTHING = -1;

    interface Telling {
        void to(TongueTip x);
    }

    interface Call {
        long on(TongueTip x);
    }

    private final Due d;
    private String sentence = "";
    private boolean tested = true;

    Edge(String test) {
        d = new Due(test);
    }

    void says(String words) {
        d.due("a test of: " + sentence, tested ? 1 : 0, 1);
        sentence = words;
        tested = false;
    }

    void due(String what, long got, long want) {
        tested = true;
        d.due("[" + sentence + "] " + what, got, want);
    }

    void fraction(String what, TongueTip x, long above, long below) {
        due(what + ", above", x.part(0), above);
        due(what + ", below", x.part(1), below);
    }

    void end() {
        says("the end");
        d.end();
    }

    static TongueTip hall(Telling told) {
        TongueTip x = new TongueTip();
        told.to(x);
        return x;
    }

    /** The call answers this, counts nothing and changes nothing. */
    void looks(String what, Telling told, Call call, long answer) {
        refused(what, told, call, answer, NOTHING);
    }

    /** The call answers BAD, at a new object and at a busy one. */
    void bad(String what, Call call) {
        bad(what, call, -2);
    }

    /** The call answers as told in place of BAD, at a new object, a busy one and a full one. */
    void bad(String what, Call call, long answer) {
        refused(what + " at a new one", Edge::nobody, call, answer, BAD);
        refused(what + " at a busy one", Edge::busy, call, answer, BAD);
        refused(what + " at a full one", Edge::full, call, answer, BAD);
    }

    /** The call answers this, counts one more of the reason, and changes nothing else. */
    void refused(String what, Telling told, Call call, long answer, int reason) {
        TongueTip x = hall(told), y = hall(told);
        due(what, call.on(x), answer);
        for (int r = 0; r <= 2; r++) {
            due(what + ": STATUS " + r, x.status(r), y.status(r) + (r == reason ? 1 : 0));
        }
        alike(what + " changes nothing else", x, y);
    }

    /** The call is taken: it answers this, counts nothing, and all is then as the other telling has it. */
    void taken(String what, Telling told, Call call, long answer, Telling other) {
        TongueTip x = hall(told);
        int[] before = {x.status(BAD), x.status(NO), x.status(FULL)};
        due(what, call.on(x), answer);
        for (int r = 0; r <= 2; r++) {
            due(what + ": STATUS " + r, x.status(r), before[r]);
        }
        alike(what + " as told otherwise", x, hall(other));
    }

    /** All that can be seen of the two is alike, but STATUS; they are used up by it. */
    void alike(String what, TongueTip x, TongueTip y) {
        List<Long> seen = all(x), due = all(y);
        for (int i = 0; i < seen.size(); i++) {
            due(what + " (look " + i + ")", seen.get(i), due.get(i));
        }
    }

    // What digest() has, then what may be undone, then both IMAGES, then THE TEXT as it is read.
    private static List<Long> all(TongueTip x) {
        List<Long> seen = new ArrayList<>();
        for (int what = 0; what <= 5; what++) {
            seen.add((long) x.count(what));
        }
        seen.add(x.part(0));
        seen.add(x.part(1));
        seen.add(x.digest());
        for (int i = 0; i < 5; i++) {
            seen.add((long) x.undo());
            seen.add(x.digest());
        }
        for (int i = 0; i <= 1; i++) {
            seen.add((long) x.from(i));
            seen.add(x.digest());
        }
        seen.add((long) x.read());
        seen.add(x.digest());
        seen.add((long) x.clear());
        return seen;
    }

    static void nobody(TongueTip x) {
    }

    /** Some of everything: two of each, an IMAGE, two that may be undone, a FRACTION of 3 by 20, a TEXT that stands. */
    static void busy(TongueTip x) {
        x.one(Due.name("rita"), 2, 1, 3, 13, 4);
        x.one(Due.name("bo"), 3, 0, 0, 19, 9);
        x.addTry(0, 3, 7);
        x.question(1, 8);
        x.put(0, 1);
        x.put(1, 9);
        x.put(2, 2);
        for (int r = 1; r <= 5; r++) {
            x.put(2 + r, 10 + r);
        }
        x.has(3, 1);
        x.image(0);
        x.days(10);
        x.addTry(3, 2, 10);
        x.question(4, 7);
        x.think(1);
        x.has(1, 4);
        x.comes(0, 2);
        Due.text(x, "one al 1 2 3 4 5;here 4;");
    }

    /** One more of PEOPLE, TRIES and QUESTIONS, and all else that is told otherwise than busy() has it. */
    static void more(TongueTip x) {
        x.one(Due.name("rosa"), 5, 5, 5, 5, 5);
        x.addTry(5, 5, 5);
        x.question(3, 3);
        for (int what = 0; what < 8; what++) {
            x.put(what, 3);
        }
        for (int part = 0; part < 5; part++) {
            x.has(part, 5);
        }
    }

    /** As many of everything as there may be: PEOPLE, TRIES, QUESTIONS, bytes, IMAGES, DAYS, and what may be undone. */
    static void full(TongueTip x) {
        for (int i = 0; i < 12; i++) {
            x.one(Due.name("a") + i, 1 + i % 5, i % 6, i % 5, i, 1 + i % 9);
        }
        for (int i = 0; i < 5; i++) {
            x.addTry(i, 1 + i, 20 - i);
        }
        for (int i = 0; i < 6; i++) {
            x.question(i % 5, i);
        }
        x.days(900);
        x.image(0);
        x.think(3);
        x.think(4);
        x.image(1);
        x.days(50);
        x.days(49);
        Due.text(x, "here 5;".repeat(42) + "      ");
    }

    /** What digest() answers where these are the values that it goes through. */
    static long mixed(long... values) {
        long h = 701;
        for (long v : values) {
            h = 31 * h + v;
        }
        return h;
    }
}
