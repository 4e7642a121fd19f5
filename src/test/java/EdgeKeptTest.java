/** The sentences of 'Terms' and of promises 25 to 30 that name an edge, each with its own test. */
public final class EdgeKeptTest {
    private static final int MAX = Edge.MAX, MIN = Edge.MIN;

    public static void main(String[] args) {
        Edge e = new Edge("EdgeKeptTest");
        partsOfTheFraction(e);
        fractionAtFirst(e);
        lowestTerms(e);
        fractionOfWhatIsRefused(e);
        whatLeavesTheFraction(e);
        twoImages(e);
        goesOnFrom(e);
        noneWasKept(e);
        keptAnew(e);
        keepAllButThem(e);
        notWhatMayBeUndone(e);
        statusOfWhat(e);
        anotherWhat(e);
        callsRefusedAsBad(e);
        callsRefusedAsNo(e);
        callsRefusedAsFull(e);
        noRefusals(e);
        badAheadOfNo(e);
        badAheadOfFull(e);
        countOfWhat(e);
        countsAtMost(e);
        digestOfNobody(e);
        digestOfAll(e);
        digestOfWhatOneHasNot(e);
        theLastCall(e);
        e.end();
    }

    private static void partsOfTheFraction(Edge e) {
        e.says("25: above (0), below (1): BAD");
        for (int what : new int[] {-1, 2, -2, 3, MIN, MAX}) {
            e.bad("part " + what, x -> x.part(what));
        }
        e.looks("above", Edge::busy, x -> x.part(0), 3);
        e.looks("below", Edge::busy, x -> x.part(1), 20);
    }

    private static void fractionAtFirst(Edge e) {
        e.says("THE FRACTION is 0 by 1 at first");
        e.looks("above", Edge::nobody, x -> x.part(0), 0);
        e.looks("below", Edge::nobody, x -> x.part(1), 1);
    }

    private static void lowestTerms(Edge e) {
        e.says("THE FRACTION: lowest terms, below above 0");
        for (int ease = 1; ease <= 20; ease++) {
            TongueTip x = new TongueTip();
            x.one(1, 1, 0, 0, 20, 1);
            x.addTry(0, 1, ease);
            x.comes(0, 1);
            int common = ease % 20 == 0 ? 20 : ease % 10 == 0 ? 10 : ease % 5 == 0 ? 5 : ease % 4 == 0 ? 4 : ease % 2 == 0 ? 2 : 1;
            e.fraction("EASE " + ease, x, ease / common, 20 / common);
            x.comes(0, 0);
            e.fraction("none", x, 0, 1);
        }
        TongueTip x = new TongueTip();
        x.one(1, 1, 0, 0, 1, 1);
        for (int i = 0; i < 5; i++) {
            x.addTry(0, 1, 1);
        }
        x.comes(0, 12345);
        long whole = 400L * 400 * 400 * 400 * 400;
        e.fraction("the greatest below", x, whole - 399L * 399 * 399 * 399 * 399, whole);
    }

    private static void fractionOfWhatIsRefused(Edge e) {
        e.says("Refused, changing nothing but STATUS: THE FRACTION stays");
        e.refused("comes", Edge::busy, x -> x.comes(0, 11), -2, Edge.BAD);
        e.refused("comes of a ROW that breaks off", Edge::busy, x -> x.comes(0, 126), -2, Edge.BAD);
        e.refused("best", Edge::busy, x -> x.best(0, 61), -2, Edge.BAD);
        e.refused("odds, BAD", Edge::busy, x -> x.odds(2), -2, Edge.BAD);
        e.refused("odds, NO", Edge::busy, x -> x.odds(1), -3, Edge.NO);
    }

    private static void whatLeavesTheFraction(Edge e) {
        e.says("THE FRACTION is told by comes, best and odds (no other call changes it)");
        TongueTip x = Edge.hall(Edge::busy);
        x.tell(0, 60);
        x.learn(3, 99, -1);
        x.rests(3, 4);
        x.next();
        x.ask();
        x.index();
        x.takenFor(7, -1);
        x.think(0);
        x.days(3);
        x.undo();
        x.image(1);
        x.from(0);
        x.read();
        x.clear();
        e.fraction("as ahead of them", x, 3, 20);
        x.one(1, 1, 0, 0, 1, 1);
        x.odds(0);
        e.fraction("odds", x, 5, 6);
        x.best(0, 0);
        e.fraction("best", x, 0, 1);
    }

    private static void twoImages(Edge e) {
        e.says("26: An IMAGE (0, 1) is kept: 1; BAD");
        for (int i : new int[] {-1, 2, 3, 32, 33, MIN, MAX}) {
            e.bad("image " + i, x -> x.image(i));
        }
        for (int i = 0; i <= 1; i++) {
            TongueTip x = Edge.hall(Edge::busy);
            long digest = x.digest();
            e.due("image " + i, x.image(i), 1);
            e.due("nothing else changes", x.digest(), digest);
            e.due("nothing is refused", x.status(0) + x.status(1) + x.status(2), 0);
        }
    }

    private static void goesOnFrom(Edge e) {
        e.says("27: It goes on from an IMAGE (0, 1): 1; BAD");
        for (int i : new int[] {-1, 2, 3, 32, 33, MIN, MAX}) {
            e.bad("from " + i, x -> x.from(i));
        }
        TongueTip x = new TongueTip();
        x.put(0, 1);
        x.image(0);
        x.put(0, 2);
        x.image(1);
        x.put(0, 3);
        e.due("from 0", x.from(0), 1);
        e.due("HERE of 0", x.put(0, 4), 1);
        e.due("from 1", x.from(1), 1);
        e.due("HERE of 1", x.put(0, 4), 2);
        e.due("from 0 again", x.from(0), 1);
        e.due("HERE of 0, as it was kept", x.put(0, 4), 1);
    }

    private static void noneWasKept(Edge e) {
        e.says("27: NO: none was kept (BAD first)");
        e.refused("none of two", Edge::nobody, x -> x.from(0), -3, Edge.NO);
        e.refused("none of two", Edge::nobody, x -> x.from(1), -3, Edge.NO);
        e.refused("the other one was", x -> x.image(0), x -> x.from(1), -3, Edge.NO);
        e.refused("the other one was", x -> x.image(1), x -> x.from(0), -3, Edge.NO);
        e.refused("one that is none was refused", x -> x.image(2), x -> x.from(1), -3, Edge.NO);
        e.refused("a busy one", Edge::busy, x -> x.from(1), -3, Edge.NO);
        e.refused("BAD comes first", Edge::nobody, x -> x.from(2), -2, Edge.BAD);
        TongueTip x = new TongueTip();
        x.image(1);
        Due.read(x, "here 4;");
        e.due("one that was kept stays so behind read()", x.from(1), 1);
    }

    private static void keptAnew(Edge e) {
        e.says("26: An IMAGE is kept (again: in place of the one ahead)");
        TongueTip x = new TongueTip();
        x.put(0, 1);
        x.image(1);
        x.put(0, 2);
        x.image(1);
        x.put(0, 3);
        x.from(1);
        e.due("HERE of the later one", x.put(0, 4), 2);
    }

    private static void keepAllButThem(Edge e) {
        e.says("Terms: IMAGES keep all but them, THE TEXT, THE FRACTION and STATUS");
        Edge.Telling kept = x -> {
            Edge.busy(x);
            x.image(1);
        };
        TongueTip x = Edge.hall(kept), y = Edge.hall(kept);
        x.days(1);
        Edge.more(x);
        x.image(0);
        x.type(';', 1);
        x.best(0, 0);
        x.held(-1, 0);
        e.due("from", x.from(1), 1);
        y.from(1);
        e.due("THE TEXT stays", x.count(3), 25);
        e.fraction("THE FRACTION stays", x, 0, 1);
        e.due("STATUS stays", x.status(0), 1);
        e.due("the other IMAGE stays", x.from(0), 1);
        e.due("people of it", x.count(0), 3);
        x.from(1);
        y.image(0);
        x.image(0);
        y.type(';', 1);
        y.best(0, 0);
        e.alike("all else", x, y);
    }

    private static void notWhatMayBeUndone(Edge e) {
        e.says("Terms: IMAGES keep not what may be undone: nothing then");
        Edge.Telling kept = x -> {
            Edge.busy(x);
            x.image(1);
        };
        e.due("image leaves it", Edge.hall(kept).count(4), 2);
        TongueTip x = Edge.hall(kept);
        x.from(1);
        e.due("none behind from", x.count(4), 0);
        e.due("undo", x.undo(), -3);
        x.days(1);
        e.due("one more DAY", x.count(4), 1);
        e.due("undo", x.undo(), 1);
        e.due("the DAY of the IMAGE", x.count(5), 10);
        e.due("undo", x.undo(), -3);
        e.refused("a from that is refused leaves it", Edge::busy, y -> y.from(1), -3, Edge.NO);
        e.refused("a from that is refused leaves it", Edge::busy, y -> y.from(2), -2, Edge.BAD);
    }

    private static void statusOfWhat(Edge e) {
        e.says("28: STATUS: BAD (0), NO (1), FULL (2)");
        Edge.Telling some = x -> {
            Edge.full(x);
            x.undo();
            x.undo();
            x.undo();
            x.undo();
            x.undo();
            x.undo();
            x.held(-1, 0);
            x.addTry(1, 1, 1);
            x.addTry(1, 1, 1);
            x.addTry(1, 1, 1);
        };
        e.looks("BAD", some, x -> x.status(0), 1);
        e.looks("NO", some, x -> x.status(1), 2);
        e.looks("FULL", some, x -> x.status(2), 3);
    }

    private static void anotherWhat(Edge e) {
        e.says("28: -1: another what (counts as BAD)");
        for (int what : new int[] {-1, 3, -2, 4, 32, MIN, MAX}) {
            e.bad("status " + what, x -> x.status(what), -1);
        }
    }

    private static void callsRefusedAsBad(Edge e) {
        e.says("Terms: STATUS: how many calls were refused as BAD (each answer told so is such a one)");
        Edge.Call[] calls = {x -> x.one(0, 1, 1, 1, 1, 1), x -> x.put(8, 1), x -> x.addTry(6, 1, 1), x -> x.held(-1, 0), x -> x.think(-1),
            x -> x.days(0), x -> x.type(0, 0), x -> x.comes(-1, 0), x -> x.best(-1, 0), x -> x.tell(-1, 0), x -> x.has(5, 0),
            x -> x.odds(-1), x -> x.question(5, 0), x -> x.takenFor(8, 0), x -> x.learn(0, 100, -1), x -> x.rests(21, 0), x -> x.part(2),
            x -> x.image(2), x -> x.from(2), x -> x.status(3), x -> x.count(6)};
        TongueTip x = new TongueTip();
        for (int i = 0; i < calls.length; i++) {
            long answer = calls[i].on(x);
            e.due("call " + i + " is refused", answer, i == 10 || i == 13 || i == 14 ? -10 : i == 19 ? -1 : -2);
            e.due("BAD behind call " + i, x.status(0), i + 1);
        }
        e.due("NO", x.status(1), 0);
        e.due("FULL", x.status(2), 0);
    }

    private static void callsRefusedAsNo(Edge e) {
        e.says("Terms: STATUS: how many calls were refused as NO");
        Edge.Call[] calls = {x -> x.days(999), x -> x.undo(), x -> x.odds(0), x -> x.next(), x -> x.ask(), x -> x.from(0)};
        TongueTip x = new TongueTip();
        x.one(1, 1, 0, 0, 1, 1);
        x.has(0, 25);
        x.days(1);
        x.image(1);
        x.from(1);
        for (int i = 0; i < calls.length; i++) {
            e.due("call " + i + " is refused", calls[i].on(x), -3);
            e.due("NO behind call " + i, x.status(1), i + 1);
        }
        e.due("BAD", x.status(0), 0);
        e.due("FULL", x.status(2), 0);
    }

    private static void callsRefusedAsFull(Edge e) {
        e.says("Terms: STATUS: how many calls were refused as FULL");
        Edge.Call[] calls = {x -> x.one(1, 1, 0, 0, 1, 1), x -> x.addTry(0, 1, 1), x -> x.type(0, 1), x -> x.question(0, 0)};
        TongueTip x = Edge.hall(Edge::full);
        x.type(0, 1);
        e.due("FULL of a full one", x.status(2), 1);
        for (int i = 0; i < calls.length; i++) {
            e.due("call " + i + " is refused", calls[i].on(x), -4);
            e.due("FULL behind call " + i, x.status(2), i + 2);
        }
        e.due("BAD", x.status(0), 0);
        e.due("NO", x.status(1), 0);
    }

    private static void noRefusals(Edge e) {
        e.says("Terms: STATUS: ITEMS are none; NONE, -5 and what read() refuses are none");
        TongueTip x = new TongueTip();
        e.due("an ITEM that is refused", Due.read(x, "one a 0 0 0 0 0;"), -1000);
        e.due("ITEMS that are too many", Due.read(x, "try 0 1 1;".repeat(6)), -1005);
        e.due("a FAULT", Due.read(x, "?"), -10);
        e.due("not so many", x.takenFor(0, 0), -5);
        x.one(1, 1, 0, 0, 1, 1);
        x.one(1, 1, 0, 0, 1, 1);
        e.due("index: none", x.index(), -1);
        e.due("ask: none", x.ask(), -1);
        e.due("has: not", x.has(0, -1), -1);
        for (int part = 0; part < 5; part++) {
            x.has(part, part == 1 || part == 2 ? 1 : 0);
        }
        e.due("next: one has all", x.next(), -1);
        for (int r = 0; r <= 2; r++) {
            e.due("STATUS " + r, x.status(r), 0);
        }
    }

    private static void badAheadOfNo(Edge e) {
        e.says("Refused, the first of: BAD; NO");
        Edge.Telling told = x -> {
            x.one(1, 1, 0, 0, 1, 1);
            x.has(0, 25);
            x.image(0);
            x.days(999);
            x.from(0);
            x.days(999);
            x.image(0);
            x.from(0);
        };
        e.refused("days 0 on the last DAY", told, x -> x.days(0), -2, Edge.BAD);
        e.refused("days 1 on the last DAY", told, x -> x.days(1), -3, Edge.NO);
        e.refused("odds of nobody, WHOSE is nobody", told, x -> x.odds(1), -2, Edge.BAD);
        e.refused("odds of one, WHOSE is nobody", told, x -> x.odds(0), -3, Edge.NO);
        e.refused("from 2, none was kept", Edge::nobody, x -> x.from(2), -2, Edge.BAD);
        e.refused("from 1, none was kept", Edge::nobody, x -> x.from(1), -3, Edge.NO);
    }

    private static void badAheadOfFull(Edge e) {
        e.says("Refused, the first of: BAD; FULL");
        e.refused("one, a NAME that is none", Edge::full, x -> x.one(27, 1, 0, 0, 0, 1), -2, Edge.BAD);
        e.refused("one", Edge::full, x -> x.one(26, 1, 0, 0, 0, 1), -4, Edge.FULL);
        e.refused("addTry, no KIND", Edge::full, x -> x.addTry(6, 1, 1), -2, Edge.BAD);
        e.refused("addTry", Edge::full, x -> x.addTry(5, 1, 1), -4, Edge.FULL);
        e.refused("question, no PART", Edge::full, x -> x.question(5, 0), -2, Edge.BAD);
        e.refused("question", Edge::full, x -> x.question(4, 0), -4, Edge.FULL);
        e.refused("type, nine bytes", Edge::full, x -> x.type(0, 9), -2, Edge.BAD);
        e.refused("type, eight bytes", Edge::full, x -> x.type(0, 8), -4, Edge.FULL);
    }

    private static void countOfWhat(Edge e) {
        e.says("29: 0 PEOPLE .. 5 the DAY: BAD");
        for (int what : new int[] {-1, 6, -2, 7, 32, MIN, MAX}) {
            e.bad("count " + what, x -> x.count(what));
        }
        int[] due = {2, 2, 2, 24, 2, 10};
        for (int what = 0; what <= 5; what++) {
            int w = what;
            e.looks("count " + w, Edge::busy, x -> x.count(w), due[w]);
        }
    }

    private static void countsAtMost(Edge e) {
        e.says("29: How many: 12 PEOPLE, 5 TRIES, 6 QUESTIONS, 300 bytes, 4 that may be undone, DAY 999 at most");
        int[] due = {12, 5, 6, 300, 4, 999};
        for (int what = 0; what <= 5; what++) {
            int w = what;
            e.looks("count " + w, Edge::full, x -> x.count(w), due[w]);
        }
    }

    private static void digestOfNobody(Edge e) {
        e.says("30: h = 701; then h = 31 h + v for each v (of nobody)");
        e.looks("digest", Edge::nobody, x -> x.digest(),
            Edge.mixed(0, 0, 0, 0, 0, 0, 0, 7, 0, 3, 6, 8, 9, 10, -1, -1, -1, -1, -1, 0, 1));
    }

    private static void digestOfAll(Edge e) {
        e.says("30: each v, in its order");
        e.looks("of a busy one", Edge::busy, x -> x.digest(), Edge.mixed(2, 2, 2, 24, 2, 10,
            Due.name("rita"), 2, 1, 3, 13, 4, 0, Due.name("bo"), 3, 0, 0, 20, 9, 10,
            0, 3, 7, 3, 2, 10, 1, 8, 4, 7, 1, 9, 2, 11, 12, 13, 14, 15, -1, 4, -1, 1, -1, 3, 20));
        long[] v = new long[6 + 12 * 7 + 5 * 3 + 6 * 2 + 8 + 5 + 2];
        int n = 0;
        for (int c : new int[] {12, 5, 6, 300, 4, 999}) {
            v[n++] = c;
        }
        for (int i = 0; i < 12; i++) {
            int thought = i == 3 || i == 4 ? 1 : 0;
            for (long p : new long[] {1 + i, 1 + i % 5, i % 6, i % 5, thought == 1 ? 3 : i, 1 + i % 9, 900 * thought}) {
                v[n++] = p;
            }
        }
        for (int i = 0; i < 5; i++) {
            v[n++] = i;
            v[n++] = 1 + i;
            v[n++] = 20 - i;
        }
        for (int i = 0; i < 6; i++) {
            v[n++] = i % 5;
            v[n++] = i;
        }
        for (int s : new int[] {0, 7, 0, 3, 6, 8, 9, 10, -1, -1, -1, -1, -1, 0, 1}) {
            v[n++] = s;
        }
        e.looks("of a full one", Edge::full, x -> x.digest(), Edge.mixed(v));
    }

    private static void digestOfWhatOneHasNot(Edge e) {
        e.says("30: PARTS one has (NONE: not)");
        int[] most = {25, 7, 5, 5, 5};
        for (int had = 0; had < 32; had++) {
            long[] v = {0, 0, 0, 0, 0, 0, 0, 7, 0, 3, 6, 8, 9, 10, -1, -1, -1, -1, -1, 0, 1};
            int parts = had;
            for (int part = 0; part < 5; part++) {
                v[14 + part] = (had >> part & 1) == 1 ? most[part] : -1;
            }
            e.looks("one has " + had, x -> {
                for (int part = 0; part < 5; part++) {
                    x.has(part, (parts >> part & 1) == 1 ? most[part] : -1);
                }
            }, x -> x.digest(), Edge.mixed(v));
        }
    }

    private static void theLastCall(Edge e) {
        e.says("An object is used for at most 512 calls: the last of them is answered as the first");
        TongueTip refused = new TongueTip(), thought = new TongueTip(), typed = new TongueTip(), kept = new TongueTip();
        thought.one(1, 1, 0, 0, 0, 1);
        for (int i = 1; i <= 511; i++) {
            refused.held(-1, 0);
            typed.type(' ', 1);
            if (i % 2 == 0) {
                kept.image(0);
            } else {
                kept.from(0);
            }
            if (i < 511) {
                thought.think(0);
            }
        }
        e.due("511 refused", refused.status(0), 511);
        e.due("510 times THOUGHT OF", thought.count(4), 4);
        e.due("511 times typed", typed.status(2), 211);
        e.due("511 times kept and gone on", kept.status(1), 1);
    }
}
