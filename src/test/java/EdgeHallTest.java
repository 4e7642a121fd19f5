/** The sentences of 'Terms' and of promises 1 to 8 that name an edge of a hall, each with its own test. */
public final class EdgeHallTest {
    private static final int MAX = Edge.MAX, MIN = Edge.MIN;
    private static final long RITA = Due.name("rita");

    public static void main(String[] args) {
        Edge e = new Edge("EdgeHallTest");
        aNewObject(e);
        peopleAsTheyCome(e);
        lastLettersTaken(e);
        noLetters(e);
        moreThanSeven(e);
        anotherLetter(e);
        numbersOfOne(e);
        lastThoughtOfNow(e);
        fullOfPeople(e);
        boundsOfPut(e);
        whatPutHas(e);
        triesAsTheyCome(e);
        numbersOfATry(e);
        fullOfTries(e);
        wholeFalls(e);
        heldAtLeast(e);
        heldDaysFromNow(e);
        heldOfWhom(e);
        thinkAtMost(e);
        thinkOfWhatIsHeldNow(e);
        theDayIsNow(e);
        thinkOfWhom(e);
        numbersOfDays(e);
        daysBeyond(e);
        undoOfDays(e);
        undoOfThink(e);
        undoFourAtMost(e);
        undoTakesAllElse(e);
        undoLeavesTheRest(e);
        noneMayBeUndone(e);
        e.end();
    }

    private static void rita(TongueTip x) {
        x.one(RITA, 2, 1, 3, 13, 4);
    }

    private static void aNewObject(Edge e) {
        e.says("1: As told; nobody (0 now, FALLS 7, HERE 0, ACROSS 0, LAWS 3 6 8 9 10, THE FRACTION 0 by 1, at first)");
        long first = Edge.mixed(0, 0, 0, 0, 0, 0, 0, 7, 0, 3, 6, 8, 9, 10, -1, -1, -1, -1, -1, 0, 1);
        e.looks("digest", Edge::nobody, x -> x.digest(), first);
        for (int what = 0; what <= 5; what++) {
            int w = what;
            e.looks("count " + w, Edge::nobody, x -> x.count(w), 0);
        }
        for (int what = 0; what <= 2; what++) {
            int w = what;
            e.looks("status " + w, Edge::nobody, x -> x.status(w), 0);
        }
        e.looks("above", Edge::nobody, x -> x.part(0), 0);
        e.looks("below", Edge::nobody, x -> x.part(1), 1);
        e.looks("whose", Edge::nobody, x -> x.whose(), 0);
        e.looks("clear", Edge::nobody, x -> x.clear(), 0);
        e.refused("undo", Edge::nobody, x -> x.undo(), -3, Edge.NO);
        e.refused("from 0", Edge::nobody, x -> x.from(0), -3, Edge.NO);
        e.refused("from 1", Edge::nobody, x -> x.from(1), -3, Edge.NO);
    }

    private static void peopleAsTheyCome(Edge e) {
        e.says("Terms: PEOPLE 0 .. 11, as they come");
        TongueTip x = new TongueTip();
        for (int i = 0; i < 12; i++) {
            e.due("one", x.one(RITA, 1, 1, 1, i, 1), i);
            e.due("held by the last one", x.held(i, 0), i);
            e.due("the next one is nobody", x.held(i + 1, 0), -2);
            e.due("people", x.count(0), i + 1);
        }
    }

    private static void lastLettersTaken(Edge e) {
        e.says("Terms: a NAME (1 to 7 letters a .. z)");
        String[] names = {"a", "z", "aa", "zz", "az", "za", "aaaaaaa", "zzzzzzz", "abcdefg", "mnopqrz"};
        for (String n : names) {
            TongueTip x = new TongueTip();
            e.due(n + " is taken", x.one(Due.name(n), 2, 1, 3, 13, 4), 0);
            e.due(n + " is kept", x.digest(), digestOfOne(Due.name(n), 2, 1, 3, 13, 4, 0));
            x.has(0, n.charAt(0) - 'a');
            x.has(1, n.length());
            e.due(n + " has its first letter, and as many", x.whose(), 1);
        }
    }

    private static long digestOfOne(long name, int beats, int place, int job, int strength, int seen, int last) {
        return Edge.mixed(1, 0, 0, 0, 0, 0, name, beats, place, job, strength, seen, last,
            0, 7, 0, 3, 6, 8, 9, 10, -1, -1, -1, -1, -1, 0, 1);
    }

    private static void badName(Edge e, String what, long name) {
        e.bad(what + " " + name, x -> x.one(name, 2, 1, 3, 13, 4));
    }

    private static void noLetters(Edge e) {
        e.says("2: BAD: no letters");
        badName(e, "none", 0);
        badName(e, "less than none", -1);
        badName(e, "less than none", -RITA);
        badName(e, "the least number", Long.MIN_VALUE);
        badName(e, "a letter below nothing", Long.MIN_VALUE + 1);
    }

    private static void moreThanSeven(Edge e) {
        e.says("2: BAD: more than 7");
        badName(e, "eight letters", Due.name("aaaaaaaa"));
        badName(e, "eight letters", Due.name("zzzzzzzz"));
        badName(e, "nine letters", Due.name("abcdefghi"));
        badName(e, "twelve letters", Due.name("aaaaaaaaaaaa"));
        badName(e, "the greatest number", Long.MAX_VALUE);
        badName(e, "a letter far ahead", RITA + (1L << 60));
        badName(e, "a letter just ahead of seven", Due.name("aaaaaaa") + (1L << 35));
    }

    private static void anotherLetter(Edge e) {
        e.says("2: BAD: another letter, too");
        for (int place = 0; place < 7; place++) {
            long shift = 1L << 5 * place;
            for (int sign : new int[] {27, 28, 31}) {
                badName(e, "sign " + sign + " from the end " + place, Due.name("aaaaaaa") + (sign - 1) * shift);
            }
            if (place < 6) {
                badName(e, "sign 0 from the end " + place, Due.name("aaaaaaa") - shift);
            }
            badName(e, "sign 27 alone, nothing behind", 27 * shift);
        }
        badName(e, "nothing behind one letter", 32);
    }

    private static int oneWith(TongueTip x, int which, int v) {
        int[] n = {2, 1, 3, 13, 4};
        n[which] = v;
        return x.one(RITA, n[0], n[1], n[2], n[3], n[4]);
    }

    private static void numbersOfOne(Edge e) {
        String[] called = {"BEATS (1 .. 5)", "PLACE (0 .. 5)", "JOB (0 .. 5)", "STRENGTH (0 .. 20)", "SEEN (1 .. 9 times)"};
        int[] least = {1, 0, 0, 0, 1};
        int[] most = {5, 5, 5, 20, 9};
        for (int which = 0; which < 5; which++) {
            int w = which;
            e.says("2, Terms: " + called[w]);
            for (int v : new int[] {least[w] - 1, most[w] + 1, -1, MIN, MAX}) {
                e.bad("one with " + v, x -> oneWith(x, w, v));
            }
            for (int v : new int[] {least[w], most[w]}) {
                int[] n = {2, 1, 3, 13, 4};
                n[w] = v;
                TongueTip x = new TongueTip();
                e.due("one with " + v, oneWith(x, w, v), 0);
                e.due("kept: " + v, x.digest(), digestOfOne(RITA, n[0], n[1], n[2], n[3], n[4], 0));
                e.due("nothing is refused", x.status(0) + x.status(1) + x.status(2), 0);
            }
        }
    }

    private static void lastThoughtOfNow(Edge e) {
        e.says("Terms: the DAY when one was last thought of (now, at first)");
        TongueTip x = new TongueTip();
        x.days(6);
        rita(x);
        e.due("held 6 DAYS from then", x.held(0, 6), 13);
        e.due("held 7 DAYS from then", x.held(0, 7), 12);
        e.due("digest", x.digest(), Edge.mixed(1, 0, 0, 0, 1, 6, RITA, 2, 1, 3, 13, 4, 6,
            0, 7, 0, 3, 6, 8, 9, 10, -1, -1, -1, -1, -1, 0, 1));
    }

    private static void fullOfPeople(Edge e) {
        e.says("2: FULL: 12");
        Edge.Telling eleven = x -> {
            for (int i = 0; i < 11; i++) {
                rita(x);
            }
        };
        Edge.Telling twelve = x -> {
            eleven.to(x);
            rita(x);
        };
        e.taken("the twelfth", eleven, x -> x.one(RITA, 2, 1, 3, 13, 4), 11, twelve);
        e.refused("the thirteenth", twelve, x -> x.one(RITA, 2, 1, 3, 13, 4), -4, Edge.FULL);
        e.refused("the thirteenth, at a full one", Edge::full, x -> x.one(RITA, 2, 1, 3, 13, 4), -4, Edge.FULL);
        e.refused("BAD comes first", twelve, x -> x.one(0, 2, 1, 3, 13, 4), -2, Edge.BAD);
        e.refused("BAD comes first", twelve, x -> x.one(RITA, 2, 1, 3, 13, 10), -2, Edge.BAD);
    }

    private static void boundsOfPut(Edge e) {
        String[] called = {"HERE (a PLACE; 0 at first)", "FALLS (1 .. 99; 7 at first)", "ACROSS (0 .. 60; 0 at first)",
            "LAW of 1 (0 .. 20; 3 at first)", "LAW of 2 (6)", "LAW of 3 (8)", "LAW of 4 (9)", "LAW of 5 (10)"};
        int[] least = {0, 1, 0, 0, 0, 0, 0, 0};
        int[] most = {5, 99, 60, 20, 20, 20, 20, 20};
        int[] first = {0, 7, 0, 3, 6, 8, 9, 10};
        for (int what = 0; what < 8; what++) {
            int w = what;
            e.says("3, Terms: " + called[w]);
            for (int v : new int[] {least[w] - 1, most[w] + 1, MIN, MAX}) {
                e.bad("put " + v, x -> x.put(w, v));
            }
            for (int v : new int[] {least[w], most[w]}) {
                TongueTip x = new TongueTip();
                e.due("put " + v + ": what it was", x.put(w, v), first[w]);
                long[] now = {0, 0, 0, 0, 0, 0, 0, 7, 0, 3, 6, 8, 9, 10, -1, -1, -1, -1, -1, 0, 1};
                now[6 + w] = v;
                e.due("kept: " + v, x.digest(), Edge.mixed(now));
                e.due("put again: what it was", x.put(w, v), v);
                e.due("nothing is refused", x.status(0) + x.status(1) + x.status(2), 0);
            }
        }
    }

    private static void whatPutHas(Edge e) {
        e.says("3: HERE (0), FALLS (1), ACROSS (2), LAW of r (2 and r, 1 to 5); BAD");
        for (int what : new int[] {-1, 8, -2, 9, MIN, MAX}) {
            for (int v : new int[] {0, 1, 7}) {
                e.bad("put " + what + " " + v, x -> x.put(what, v));
            }
        }
    }

    private static void triesAsTheyCome(Edge e) {
        e.says("4, Terms: TRIES 0 .. 4, as they come: its number");
        TongueTip x = new TongueTip();
        rita(x);
        for (int i = 0; i < 5; i++) {
            e.due("no such TRY yet", x.comes(0, i + 1), -2);
            e.due("a TRY", x.addTry(0, 1 + i, 1), i);
            e.due("tries", x.count(1), i + 1);
            e.due("its SECONDS", x.comes(0, i + 1), 1 + i);
        }
    }

    private static void numbersOfATry(Edge e) {
        String[] called = {"KINDS 0 .. 5", "SECONDS (1 .. 20)", "EASE (1 .. 20)"};
        int[] least = {0, 1, 1};
        int[] most = {5, 20, 20};
        for (int which = 0; which < 3; which++) {
            int w = which;
            e.says("4, Terms: " + called[w]);
            for (int v : new int[] {least[w] - 1, most[w] + 1, -1, MIN, MAX}) {
                int[] n = {2, 3, 4};
                n[w] = v;
                e.bad("addTry with " + v, x -> x.addTry(n[0], n[1], n[2]));
            }
            for (int v : new int[] {least[w], most[w]}) {
                int[] n = {2, 3, 4};
                n[w] = v;
                TongueTip x = new TongueTip();
                e.due("addTry with " + v, x.addTry(n[0], n[1], n[2]), 0);
                e.due("kept: " + v, x.digest(), Edge.mixed(0, 1, 0, 0, 0, 0, n[0], n[1], n[2],
                    0, 7, 0, 3, 6, 8, 9, 10, -1, -1, -1, -1, -1, 0, 1));
                e.due("nothing is refused", x.status(0) + x.status(1) + x.status(2), 0);
            }
        }
    }

    private static void fullOfTries(Edge e) {
        e.says("4: FULL: 5");
        Edge.Telling four = x -> {
            for (int i = 0; i < 4; i++) {
                x.addTry(1, 2, 3);
            }
        };
        Edge.Telling five = x -> {
            four.to(x);
            x.addTry(1, 2, 3);
        };
        e.taken("the fifth", four, x -> x.addTry(1, 2, 3), 4, five);
        e.refused("the sixth", five, x -> x.addTry(1, 2, 3), -4, Edge.FULL);
        e.refused("the sixth, at a full one", Edge::full, x -> x.addTry(1, 2, 3), -4, Edge.FULL);
        e.refused("BAD comes first", five, x -> x.addTry(6, 2, 3), -2, Edge.BAD);
        e.refused("BAD comes first", five, x -> x.addTry(1, 2, 21), -2, Edge.BAD);
    }

    private static void wholeFalls(Edge e) {
        e.says("Terms: HELD: STRENGTH less 1 for each whole FALLS DAYS since");
        for (int falls : new int[] {1, 2, 7, 50, 99}) {
            for (int k = 0; k <= 5; k++) {
                int least = 13 - k;
                int days = k * falls;
                Edge.Telling told = x -> {
                    rita(x);
                    x.put(1, falls);
                };
                e.looks("FALLS " + falls + ", on the DAY " + days, told, x -> x.held(0, days), least);
                e.looks("FALLS " + falls + ", a DAY ahead", told, x -> x.held(0, days + falls - 1), least);
            }
        }
    }

    private static void heldAtLeast(Edge e) {
        e.says("Terms: HELD: 0 at least");
        for (int strength : new int[] {0, 1, 2, 13, 20}) {
            Edge.Telling told = x -> x.one(RITA, 2, 1, 3, strength, 4);
            e.looks("all has fallen", told, x -> x.held(0, 7 * strength), 0);
            e.looks("a fall more", told, x -> x.held(0, 7 * strength + 7), 0);
            e.looks("in 999 DAYS", told, x -> x.held(0, 999), 0);
        }
    }

    private static void heldDaysFromNow(Edge e) {
        e.says("5: n DAYS from now (0 .. 999)");
        for (int n : new int[] {-1, 1000, MIN, MAX}) {
            e.bad("held " + n, x -> x.held(0, n));
        }
        e.looks("now", Edge::busy, x -> x.held(0, 0), 12);
        e.looks("the last DAY told", Edge::busy, x -> x.held(0, 999), 0);
        Edge.Telling lastDay = x -> {
            x.days(999);
            x.one(RITA, 2, 1, 3, 20, 4);
            x.put(1, 99);
        };
        e.looks("from the last DAY 0", lastDay, x -> x.held(0, 0), 20);
        e.looks("from the last DAY 989", lastDay, x -> x.held(0, 989), 11);
        e.looks("from the last DAY 990", lastDay, x -> x.held(0, 990), 10);
        e.looks("from the last DAY 999", lastDay, x -> x.held(0, 999), 10);
        Edge.Telling firstDay = x -> {
            x.one(RITA, 2, 1, 3, 20, 4);
            x.put(1, 99);
            x.days(999);
        };
        e.looks("of the first DAY, from the last DAY 999", firstDay, x -> x.held(0, 999), 0);
        e.looks("of the first DAY, from the last DAY 881", firstDay, x -> x.held(0, 881), 2);
        e.looks("of the first DAY, from the last DAY 882", firstDay, x -> x.held(0, 882), 1);
    }

    private static void heldOfWhom(Edge e) {
        e.says("5: HELD of one: BAD");
        for (int person : new int[] {-1, 12, 32, MIN, MAX}) {
            e.bad("held by " + person, x -> x.held(person, 0));
        }
        e.looks("the last one", Edge::busy, x -> x.held(1, 0), 20);
        e.refused("one behind the last", Edge::busy, x -> x.held(2, 0), -2, Edge.BAD);
        e.refused("the first of nobody", Edge::nobody, x -> x.held(0, 0), -2, Edge.BAD);
        e.looks("the twelfth", Edge::full, x -> x.held(11, 0), 0);
    }

    private static void thinkAtMost(Edge e) {
        e.says("Terms: THOUGHT OF: and 3 (20 at most)");
        int[] strengths = {0, 1, 16, 17, 18, 19, 20};
        int[] then = {3, 4, 19, 20, 20, 20, 20};
        for (int i = 0; i < strengths.length; i++) {
            TongueTip x = new TongueTip();
            x.one(RITA, 2, 1, 3, strengths[i], 4);
            e.due("think of " + strengths[i], x.think(0), then[i]);
            e.due("held then", x.held(0, 0), then[i]);
            e.due("nothing is refused", x.status(0) + x.status(1) + x.status(2), 0);
        }
    }

    private static void thinkOfWhatIsHeldNow(Edge e) {
        e.says("Terms: STRENGTH becomes what is HELD now, and 3");
        int[] days = {6, 7, 13, 14, 90, 91, 98, 999};
        int[] then = {16, 15, 15, 14, 4, 3, 3, 3};
        for (int i = 0; i < days.length; i++) {
            TongueTip x = new TongueTip();
            rita(x);
            x.days(days[i]);
            e.due("think behind DAYS " + days[i], x.think(0), then[i]);
        }
    }

    private static void theDayIsNow(Edge e) {
        e.says("Terms: THOUGHT OF: the DAY is now");
        TongueTip x = new TongueTip();
        rita(x);
        x.days(6);
        x.think(0);
        e.due("6 DAYS later", x.held(0, 6), 16);
        e.due("7 DAYS later", x.held(0, 7), 15);
        e.due("digest", x.digest(), Edge.mixed(1, 0, 0, 0, 2, 6, RITA, 2, 1, 3, 16, 4, 6,
            0, 7, 0, 3, 6, 8, 9, 10, -1, -1, -1, -1, -1, 0, 1));
    }

    private static void thinkOfWhom(Edge e) {
        e.says("6: BAD");
        for (int person : new int[] {-1, 12, 32, MIN, MAX}) {
            e.bad("think of " + person, x -> x.think(person));
        }
        e.refused("one behind the last", Edge::busy, x -> x.think(2), -2, Edge.BAD);
        e.refused("the first of nobody", Edge::nobody, x -> x.think(0), -2, Edge.BAD);
        TongueTip x = Edge.hall(Edge::full);
        e.due("the last one of twelve", x.think(11), 3);
    }

    private static void numbersOfDays(Edge e) {
        e.says("7: DAYS go by (1 .. 999): the DAY then; BAD");
        for (int n : new int[] {0, -1, 1000, MIN, MAX}) {
            e.bad("days " + n, x -> x.days(n));
        }
        for (int n : new int[] {1, 2, 998, 999}) {
            TongueTip x = new TongueTip();
            e.due("days " + n, x.days(n), n);
            e.due("the DAY", x.count(5), n);
            e.due("one that may be undone", x.count(4), 1);
            e.due("nothing is refused", x.status(0) + x.status(1) + x.status(2), 0);
        }
    }

    private static void daysBeyond(Edge e) {
        e.says("7: NO: beyond 999 (BAD first)");
        Edge.Telling day998 = x -> x.days(998);
        Edge.Telling day1 = x -> x.days(1);
        Edge.Telling day999 = x -> x.days(999);
        TongueTip x = Edge.hall(day998);
        e.due("to the last DAY", x.days(1), 999);
        x = Edge.hall(day1);
        e.due("to the last DAY", x.days(998), 999);
        e.refused("one beyond", day998, y -> y.days(2), -3, Edge.NO);
        e.refused("one beyond", day1, y -> y.days(999), -3, Edge.NO);
        e.refused("one beyond", day999, y -> y.days(1), -3, Edge.NO);
        e.refused("far beyond", day999, y -> y.days(999), -3, Edge.NO);
        e.refused("beyond, at a full one", Edge::full, y -> y.days(1), -3, Edge.NO);
        e.refused("beyond, at a busy one", Edge::busy, y -> y.days(990), -3, Edge.NO);
        e.refused("BAD comes first", day999, y -> y.days(1000), -2, Edge.BAD);
        e.refused("BAD comes first", day999, y -> y.days(0), -2, Edge.BAD);
    }

    private static void undoOfDays(Edge e) {
        e.says("8, Terms: UNDO: as ahead of the last time DAYS went by: 1");
        Edge.Telling gone = x -> {
            rita(x);
            x.days(10);
        };
        e.taken("undo", gone, x -> x.undo(), 1, EdgeHallTest::rita);
        Edge.Telling twice = x -> {
            gone.to(x);
            x.days(20);
        };
        e.taken("undo of the last of two", twice, x -> x.undo(), 1, gone);
    }

    private static void undoOfThink(Edge e) {
        e.says("8, Terms: UNDO: or one was THOUGHT OF: 1");
        Edge.Telling thought = x -> {
            rita(x);
            x.think(0);
        };
        e.taken("undo", thought, x -> x.undo(), 1, EdgeHallTest::rita);
        Edge.Telling gone = x -> {
            thought.to(x);
            x.days(5);
        };
        e.taken("undo of the last of two", gone, x -> x.undo(), 1, thought);
        Edge.Telling again = x -> {
            gone.to(x);
            x.think(0);
        };
        e.taken("undo of the last of three", again, x -> x.undo(), 1, gone);
        Edge.Telling ofTwenty = x -> {
            x.one(RITA, 2, 1, 3, 20, 4);
            x.think(0);
        };
        e.taken("undo of one that gave nothing", ofTwenty, x -> x.undo(), 1, x -> x.one(RITA, 2, 1, 3, 20, 4));
    }

    private static void undoFourAtMost(Edge e) {
        e.says("8, Terms: UNDO (4 at most)");
        TongueTip x = new TongueTip();
        rita(x);
        for (int i = 1; i <= 10; i++) {
            if (i % 3 == 0) {
                x.think(0);
            } else {
                x.days(1);
            }
            e.due("may be undone behind " + i, x.count(4), Math.min(4, i));
        }
        // of ten the last four: DAY 7 now; ahead of the tenth 6, of the ninth (think) 6, then 5, 4
        int[] day = {6, 6, 5, 4};
        for (int i = 0; i < 4; i++) {
            e.due("undo", x.undo(), 1);
            e.due("the DAY", x.count(5), day[i]);
            e.due("may be undone", x.count(4), 3 - i);
        }
        e.due("the fifth", x.undo(), -3);
        e.due("the DAY stays", x.count(5), 4);
        e.due("NO", x.status(1), 1);
    }

    private static void undoTakesAllElse(Edge e) {
        e.says("8, Terms: UNDO: what else was told since goes with it");
        Edge.Telling ahead = x -> {
            Edge.busy(x);
            x.comes(0, 0);
        };
        Edge.Telling since = x -> {
            ahead.to(x);
            x.days(1);
            Edge.more(x);
        };
        e.taken("undo", since, x -> x.undo(), 1, ahead);
    }

    private static void undoLeavesTheRest(Edge e) {
        e.says("Terms: IMAGES keep all but them, THE TEXT, THE FRACTION and STATUS: these are not undone, either");
        Edge.Telling told = x -> {
            rita(x);
            x.addTry(0, 3, 10);
            Due.text(x, "here 3;");
            x.days(1);
        };
        TongueTip x = Edge.hall(told);
        x.image(1);
        x.comes(0, 1);
        x.type(' ', 1);
        x.held(-1, 0);
        e.due("undo", x.undo(), 1);
        e.fraction("THE FRACTION stays", x, 13, 40);
        e.due("THE TEXT stays", x.count(3), 8);
        e.due("STATUS stays", x.status(0), 1);
        e.due("the IMAGE stays", x.from(1), 1);
        e.due("the DAY of the IMAGE", x.count(5), 1);
    }

    private static void noneMayBeUndone(Edge e) {
        e.says("8: NO: none may be");
        e.refused("at a new one", Edge::nobody, x -> x.undo(), -3, Edge.NO);
        Edge.Telling undone = x -> {
            Edge.busy(x);
            x.undo();
            x.undo();
        };
        e.refused("the third of two", undone, x -> x.undo(), -3, Edge.NO);
        Edge.Telling read = x -> {
            Edge.busy(x);
            x.read();
        };
        e.refused("behind read()", read, x -> x.undo(), -3, Edge.NO);
        Edge.Telling from = x -> {
            Edge.busy(x);
            x.from(0);
        };
        e.refused("behind from()", from, x -> x.undo(), -3, Edge.NO);
        Edge.Telling told = x -> {
            rita(x);
            x.put(0, 1);
            x.has(0, 1);
            x.days(0);
            x.think(7);
        };
        e.refused("what is told or refused is none", told, x -> x.undo(), -3, Edge.NO);
    }
}
