/** Promises 15 to 22: what one has, whose it is, what to ask, what tells apart, who is taken for whom. */
public final class WhoseTest {
    private static final int MAX = Integer.MAX_VALUE, MIN = Integer.MIN_VALUE;

    public static void main(String[] args) {
        Due d = new Due("WhoseTest");
        has(d);
        whose(d);
        odds(d);
        next(d);
        nextOfLikeOnes(d);
        question(d);
        ask(d);
        index(d);
        takenFor(d);
        d.end();
    }

    private static void person(TongueTip x, String name, int beats, int place, int job, int seen) {
        x.one(Due.name(name), beats, place, job, 10, seen);
    }

    private static void has(Due d) {
        TongueTip x = new TongueTip();
        int[] least = {0, 1, 1, 0, 0};
        int[] most = {25, 7, 5, 5, 5};
        for (int part = 0; part < 5; part++) {
            d.due("has most", x.has(part, most[part]), -1);
            d.due("has more than most", x.has(part, most[part] + 1), -10);
            d.due("has less than least", x.has(part, least[part] == 0 ? -2 : 0), -10);
            d.due("has a huge one", x.has(part, MAX), -10);
            d.due("has a tiny one", x.has(part, MIN), -10);
            d.due("has least", x.has(part, least[part]), most[part]);
            d.due("has it not", x.has(part, -1), least[part]);
            d.due("has it not again", x.has(part, -1), -1);
        }
        int[] wrong = {-1, 5, MAX, MIN};
        for (int part : wrong) {
            d.due("has, no part", x.has(part, 1), -10);
            d.due("has, no part", x.has(part, -1), -10);
        }
        d.due("BAD", x.status(0), 5 * 4 + 8);
        d.due("NO, FULL", x.status(1) + x.status(2), 0);
    }

    private static void whose(Due d) {
        TongueTip x = new TongueTip();
        d.due("whose of nobody", x.whose(), 0);
        person(x, "anna", 2, 0, 1, 1);
        person(x, "zoe", 2, 1, 2, 2);
        person(x, "alba", 3, 1, 1, 3);
        person(x, "otto", 2, 5, 5, 4);
        d.due("whose without a part", x.whose(), 15);
        x.has(0, 0);
        d.due("a..", x.whose(), 5);
        x.has(0, 25);
        d.due("z..", x.whose(), 2);
        x.has(0, 1);
        d.due("b..", x.whose(), 0);
        x.has(0, -1);
        x.has(1, 4);
        d.due("four letters", x.whose(), 13);
        x.has(2, 2);
        d.due("two beats, too", x.whose(), 9);
        x.has(3, 5);
        d.due("place 5, too", x.whose(), 8);
        x.has(4, 5);
        d.due("job 5, too", x.whose(), 8);
        x.has(0, 14);
        d.due("o, too", x.whose(), 8);
        x.has(4, 1);
        d.due("another job", x.whose(), 0);
        x.has(3, 0);
        x.has(0, 0);
        d.due("all of anna", x.whose(), 1);
        TongueTip y = new TongueTip();
        for (int i = 0; i < 12; i++) {
            person(y, "a", 1, i % 2, 0, 1);
        }
        d.due("all twelve", y.whose(), 4095);
        y.has(3, 1);
        d.due("every other one", y.whose(), 2730);
    }

    private static void odds(Due d) {
        TongueTip x = new TongueTip();
        d.due("odds of nobody", x.odds(0), -2);
        person(x, "anna", 2, 0, 1, 1);
        person(x, "zoe", 2, 1, 2, 2);
        person(x, "alba", 3, 1, 1, 3);
        d.due("odds", x.odds(0), 1);
        d.fraction("odds", x, 1, 6);
        d.due("odds", x.odds(2), 1);
        d.due("above in lowest terms", x.part(0), 1);
        d.due("below in lowest terms", x.part(1), 2);
        x.has(3, 1);
        d.due("odds", x.odds(1), 1);
        d.fraction("odds", x, 2, 5);
        d.due("odds, not of WHOSE", x.odds(0), -3);
        d.due("odds, wrong", x.odds(3), -2);
        d.due("odds, wrong", x.odds(-1), -2);
        d.due("odds, wrong", x.odds(32), -2);
        d.due("odds, wrong", x.odds(MAX), -2);
        d.due("odds, wrong", x.odds(MIN), -2);
        d.fraction("what was refused", x, 2, 5);
        x.has(2, 2);
        d.due("odds of the only one", x.odds(1), 1);
        d.fraction("the only one", x, 1, 1);
        d.due("BAD", x.status(0), 6);
        d.due("NO", x.status(1), 1);
    }

    private static void next(Due d) {
        TongueTip x = new TongueTip();
        d.due("next of nobody", x.next(), -3);
        // by letter 81+25=106; letters 14*14; beats 36+64; place 25+81; job 25+81
        person(x, "anna", 1, 0, 0, 1);
        person(x, "bert", 1, 1, 1, 5);
        person(x, "alba", 2, 0, 0, 4);
        person(x, "asta", 2, 1, 1, 4);
        d.due("fewest by beats", x.next(), 2);
        x.has(2, 1);
        // of anna 1 and bert 5: letter 26, letters 36, place 26, job 26
        d.due("of like ones the least", x.next(), 0);
        x.has(0, 0);
        d.due("one left, all alike", x.next(), 1);
        x.has(1, 4);
        d.due("one left", x.next(), 3);
        x.has(3, 0);
        d.due("one left", x.next(), 4);
        x.has(4, 0);
        d.due("one has all", x.next(), -1);
        x.has(4, 1);
        d.due("one has all, of nobody", x.next(), -3);
        x.has(4, -1);
        x.has(3, 4);
        d.due("one has not all, of nobody", x.next(), -3);
        d.due("NO", x.status(1), 3);
        d.due("BAD", x.status(0), 0);
    }

    private static void nextOfLikeOnes(Due d) {
        TongueTip x = new TongueTip();
        // SEEN counts: beats part 9 from the rest, jobs part three of 1
        person(x, "aa", 1, 0, 0, 9);
        person(x, "aa", 2, 0, 1, 1);
        person(x, "aa", 2, 0, 2, 1);
        person(x, "aa", 2, 0, 0, 1);
        // beats: 81 + 9 = 90; jobs: (9+1)^2 + 1 + 1 = 102
        d.due("by SEEN, not by heads", x.next(), 2);
        x.has(2, 2);
        d.due("of those left alone", x.next(), 4);
    }

    private static void question(Due d) {
        TongueTip x = new TongueTip();
        int[][] wrong = {{-1, 0}, {5, 0}, {0, -1}, {0, 10}, {MAX, 0}, {0, MAX}, {MIN, 0}, {0, MIN}};
        for (int[] w : wrong) {
            d.due("question, wrong", x.question(w[0], w[1]), -2);
        }
        for (int i = 0; i < 6; i++) {
            d.due("question", x.question(i % 2 * 4, i % 2 * 9), i);
        }
        d.due("question, too many", x.question(0, 0), -4);
        d.due("question, BAD ahead of FULL", x.question(5, 0), -2);
        d.due("questions", x.count(2), 6);
        d.due("BAD", x.status(0), wrong.length + 1);
        d.due("FULL", x.status(2), 1);
    }

    private static void ask(Due d) {
        TongueTip x = new TongueTip();
        x.question(1, 0);
        d.due("ask of nobody", x.ask(), -3);
        person(x, "anna", 1, 0, 0, 1);
        person(x, "bert", 1, 1, 1, 5);
        person(x, "alba", 2, 0, 0, 4);
        person(x, "asta", 2, 1, 1, 4);
        // letters 196, first letter, place and job 106, beats 100
        d.due("the only question", x.ask(), 0);
        x.question(0, 3);
        d.due("one that leaves fewer, if it shows more", x.ask(), 1);
        x.question(4, 9);
        d.due("as few, but shows more", x.ask(), 1);
        x.question(3, 2);
        d.due("as few, shows less", x.ask(), 3);
        x.question(4, 2);
        d.due("as few, shows as much: the least", x.ask(), 3);
        x.question(2, 9);
        d.due("fewest, whatever it shows", x.ask(), 5);
        d.due("no room for one more", x.question(2, 0), -4);
        x.has(3, 0);
        // of anna 1 and alba 4: beats 17, all others 25
        d.due("fewest of those left", x.ask(), 5);
        x.has(2, 1);
        d.due("one left: shows least", x.ask(), 0);
        x.has(1, 4);
        d.due("one left: job, that shows 2", x.ask(), 4);
        x.has(4, 0);
        d.due("one left: the first letter", x.ask(), 1);
        x.has(0, 0);
        d.due("one has all", x.ask(), -1);
        x.has(2, 5);
        d.due("of nobody", x.ask(), -3);
        d.due("NO", x.status(1), 2);
        x = new TongueTip();
        person(x, "anna", 1, 0, 0, 1);
        d.due("no question", x.ask(), -1);
        x.question(1, 0);
        d.due("one question", x.ask(), 0);
        x.has(1, 4);
        d.due("none gives a part one has not", x.ask(), -1);
    }

    private static void index(Due d) {
        TongueTip x = new TongueTip();
        d.due("index of nobody", x.index(), 0);
        person(x, "anna", 1, 0, 0, 1);
        d.due("index of one", x.index(), 0);
        person(x, "bert", 1, 1, 1, 1);
        d.due("like sets of one: least bits", x.index(), 1);
        person(x, "alba", 1, 2, 1, 1);
        d.due("place", x.index(), 8);
        person(x, "asta", 2, 2, 1, 1);
        d.due("beats and place", x.index(), 12);
        person(x, "asta", 2, 2, 0, 1);
        // job for the two at the end, beats for alba, and the first letter or the place for bert
        d.due("three", x.index(), 21);
        person(x, "oskar", 2, 2, 0, 1);
        d.due("three", x.index(), 21);
        person(x, "otto", 2, 2, 0, 1);
        d.due("four", x.index(), 23);
        person(x, "bert", 1, 3, 1, 1);
        d.due("all five", x.index(), 31);
        person(x, "osten", 2, 2, 0, 9);
        d.due("two have all alike", x.index(), -1);
        TongueTip y = new TongueTip();
        person(y, "ann", 1, 0, 0, 1);
        person(y, "anna", 1, 0, 1, 1);
        person(y, "bert", 1, 0, 2, 1);
        d.due("one alone, if a lower set of two does as well", y.index(), 16);
        d.due("none is no refusal", x.status(0) + x.status(1) + x.status(2), 0);
        x.has(0, 3);
        d.due("of all, whatever one has", x.index(), -1);
    }

    private static void takenFor(Due d) {
        TongueTip x = new TongueTip();
        d.due("of nobody", x.takenFor(7, -1), 0);
        d.due("of nobody", x.takenFor(7, 0), -5);
        String[] names = {"rita", "rosa", "rosi", "ro", "rita", "atir"};
        for (String name : names) {
            person(x, name, 1, 1, 1, 1);
        }
        // unlike places: rita rosa 2, rita rosi 3, rosa rosi 1, rita rita 0, atir: rita 4, rosa 4, rosi 4
        int[] pairs = {1, 2, 4, 6, 10, 10, 10, 10};
        for (int most = 0; most <= 7; most++) {
            d.due("pairs of " + most, x.takenFor(most, -1), pairs[most]);
            d.due("not so many of " + most, x.takenFor(most, pairs[most]), -5);
        }
        d.due("alike", x.takenFor(0, 0), 4);
        d.due("the first", x.takenFor(1, 0), 4);
        d.due("the second", x.takenFor(1, 1), 102);
        int[] all = {1, 2, 4, 5, 102, 104, 105, 204, 205, 405};
        for (int i = 0; i < all.length; i++) {
            d.due("the pair " + i, x.takenFor(4, i), all[i]);
        }
        d.due("not so many", x.takenFor(4, MAX), -5);
        d.due("takenFor, wrong", x.takenFor(-1, -1), -10);
        d.due("takenFor, wrong", x.takenFor(8, 0), -10);
        d.due("takenFor, wrong", x.takenFor(0, -2), -10);
        d.due("takenFor, wrong", x.takenFor(MAX, 0), -10);
        d.due("takenFor, wrong", x.takenFor(MIN, MIN), -10);
        d.due("BAD: not so many is none", x.status(0), 5);
        d.due("NO, FULL", x.status(1) + x.status(2), 0);
        TongueTip y = new TongueTip();
        for (int i = 0; i < 12; i++) {
            person(y, "abcdefg", 1, 1, 1, 1);
        }
        d.due("all pairs of 12", y.takenFor(0, -1), 66);
        d.due("the last of them", y.takenFor(0, 65), 1011);
        d.due("not so many", y.takenFor(0, 66), -5);
        TongueTip z = new TongueTip();
        person(z, "abcdefg", 1, 1, 1, 1);
        person(z, "bcdefgh", 1, 1, 1, 1);
        d.due("unlike at seven places", z.takenFor(6, -1), 0);
        d.due("unlike at seven places", z.takenFor(7, -1), 1);
    }
}
