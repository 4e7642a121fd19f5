import java.util.Arrays;

/** The sentences of 'Terms' and of promises 12 to 14 that name an edge of TRIES, each with its own test. */
public final class EdgeTriesTest {
    private static final int MAX = Edge.MAX, MIN = Edge.MIN;
    private static final int STRAIGHT = 0, BY_LETTERS = 1, BY_PLACE = 2, LET_BE = 3, ASK_ROUND = 4, OUTRIGHT = 5;

    public static void main(String[] args) {
        Edge e = new Edge("EdgeTriesTest");
        helpAtFirst(e);
        twentyTogether(e);
        straight(e);
        byLetters(e);
        byPlaceHereOrElse(e);
        inPlaceOfTheTwo(e);
        letBeIsHalf(e);
        letBeFromThenOn(e);
        askRoundAsIfTen(e);
        outrightOfNothing(e);
        noneLiesAcrossAtFirst(e);
        aheadOfItsSeconds(e);
        butThese(e);
        helpsAllTheSame(e);
        chanceNowNotThen(e);
        noTryAtAll(e);
        digitsOfARow(e);
        noSuchDigit(e);
        noSuchTry(e);
        alikeInARow(e);
        comesOfWhom(e);
        bestOfWhomInWhat(e);
        overByThen(e);
        noTryIsBest(e);
        fewestTries(e);
        firstByNumbers(e);
        ofAllRows(e);
        bestIsGreatest(e);
        wholeFifties(e);
        shameOfTheLastDay(e);
        noShame(e);
        lessNotAsMuch(e);
        withoutOutright(e);
        tellOfWhomInWhat(e);
        e.end();
    }

    /** One of this STRENGTH at PLACE 1, and TRIES by KIND, SECONDS, EASE. */
    private static Edge.Telling hall(int strength, int... tries) {
        return x -> {
            x.one(Due.name("rita"), 2, 1, 1, strength, 4);
            for (int i = 0; i < tries.length; i += 3) {
                x.addTry(tries[i], tries[i + 1], tries[i + 2]);
            }
        };
    }

    /** COMES of a ROW for the first one: its SECONDS, and by chances of 400 of its TRIES. */
    private static void comes(Edge e, String what, TongueTip x, int row, int seconds, int... chances) {
        long missed = 1, whole = 1;
        for (int c : chances) {
            missed *= 400 - c;
            whole *= 400;
        }
        e.due(what + ": SECONDS of " + row, x.comes(0, row), seconds);
        long common = common(whole - missed, whole);
        e.fraction(what + ": COMES of " + row, x, (whole - missed) / common, whole / common);
    }

    private static long common(long a, long b) {
        return b == 0 ? a : common(b, a % b);
    }

    private static void helpAtFirst(Edge e) {
        e.says("Terms: HELP is 0 at first (of each ROW)");
        TongueTip x = Edge.hall(hall(10, BY_LETTERS, 1, 5, STRAIGHT, 1, 5));
        comes(e, "the first", x, 1, 1, 50);
        comes(e, "with help", x, 12, 2, 50, 70);
        comes(e, "anew", x, 2, 1, 50);
        comes(e, "anew", x, 21, 2, 50, 50);
        e.due("BEST leaves no help", x.best(0, 2), 12);
        comes(e, "behind BEST", x, 2, 1, 50);
    }

    private static void twentyTogether(Edge e) {
        e.says("Terms: EASE and HELP together, these 20 at most");
        for (int ease = 16; ease <= 20; ease++) {
            int two = Math.min(20, ease + 2), five = Math.min(20, ease + 5);
            TongueTip x = Edge.hall(hall(13, BY_LETTERS, 1, 1, BY_PLACE, 1, 1, STRAIGHT, 1, ease, LET_BE, 1, ease, ASK_ROUND, 1, ease));
            x.put(0, 1);
            comes(e, "EASE " + ease, x, 3, 1, 13 * ease);
            comes(e, "EASE " + ease, x, 13, 2, 13, 13 * two);
            comes(e, "EASE " + ease, x, 14, 2, 13, 13 * two / 2);
            comes(e, "EASE " + ease, x, 15, 2, 13, 10 * two);
            comes(e, "EASE " + ease, x, 123, 3, 13, 13 * 3, 13 * five);
            comes(e, "EASE " + ease, x, 124, 3, 13, 13 * 3, 13 * five / 2);
            comes(e, "EASE " + ease, x, 125, 3, 13, 13 * 3, 10 * five);
            x = Edge.hall(hall(13, BY_LETTERS, 1, 1, BY_LETTERS, 1, ease, BY_PLACE, 1, ease));
            comes(e, "BY LETTERS, EASE " + ease, x, 12, 2, 13, 13 * two);
            comes(e, "BY PLACE, EASE " + ease, x, 13, 2, 13, 13 * two / 2);
        }
    }

    private static void straight(Edge e) {
        e.says("Terms: 0 STRAIGHT: HELD times EASE (from none of 400 to all)");
        comes(e, "least of one that is held", Edge.hall(hall(1, STRAIGHT, 1, 1)), 1, 1, 1);
        comes(e, "one that is not held", Edge.hall(hall(0, STRAIGHT, 20, 20)), 1, 20, 0);
        comes(e, "all", Edge.hall(hall(20, STRAIGHT, 20, 20)), 1, 20, 400);
        comes(e, "all but little", Edge.hall(hall(20, STRAIGHT, 20, 19)), 1, 20, 380);
        comes(e, "all, and another", Edge.hall(hall(20, STRAIGHT, 20, 20, STRAIGHT, 1, 1)), 21, 21, 400, 20);
    }

    private static void byLetters(Edge e) {
        e.says("Terms: 1 BY LETTERS: that; behind it HELP is 2 more (for each)");
        TongueTip x = Edge.hall(hall(10, BY_LETTERS, 1, 1, BY_LETTERS, 1, 1, BY_LETTERS, 1, 1, BY_LETTERS, 1, 1, BY_LETTERS, 1, 1));
        comes(e, "one", x, 1, 1, 10);
        comes(e, "two", x, 12, 2, 10, 30);
        comes(e, "five", x, 12345, 5, 10, 30, 50, 70, 90);
    }

    private static void byPlaceHereOrElse(Edge e) {
        e.says("Terms: 2 BY PLACE: that, if the PLACE of the one is HERE, else half, cut");
        for (int held = 1; held <= 4; held++) {
            for (int ease : new int[] {1, 2, 7}) {
                TongueTip x = Edge.hall(hall(held, BY_PLACE, 1, ease));
                comes(e, "HERE is 0, HELD " + held + ", EASE " + ease, x, 1, 1, held * ease / 2);
                x.put(0, 1);
                comes(e, "HERE is 1, HELD " + held + ", EASE " + ease, x, 1, 1, held * ease);
                x.put(0, 2);
                comes(e, "HERE is 2, HELD " + held + ", EASE " + ease, x, 1, 1, held * ease / 2);
            }
        }
        TongueTip x = new TongueTip();
        x.one(Due.name("rita"), 2, 0, 1, 13, 4);
        x.addTry(BY_PLACE, 1, 7);
        comes(e, "HERE is 0 at first", x, 1, 1, 91);
        x.put(0, 1);
        comes(e, "the JOB is not HERE", x, 1, 1, 45);
    }

    private static void inPlaceOfTheTwo(Edge e) {
        e.says("Terms: behind BY PLACE HELP is 3 more (in place of the 2 of BY LETTERS)");
        TongueTip x = Edge.hall(hall(10, BY_PLACE, 1, 1, BY_PLACE, 1, 1, BY_LETTERS, 1, 1, STRAIGHT, 1, 1));
        x.put(0, 1);
        comes(e, "BY PLACE", x, 14, 2, 10, 40);
        comes(e, "BY PLACE twice", x, 124, 3, 10, 40, 70);
        comes(e, "BY LETTERS", x, 34, 2, 10, 30);
        comes(e, "BY LETTERS, then BY PLACE", x, 314, 3, 10, 30, 60);
        comes(e, "BY PLACE, then BY LETTERS", x, 134, 3, 10, 40, 60);
        x.put(0, 5);
        comes(e, "BY PLACE elsewhere helps by 3, too", x, 14, 2, 5, 40);
    }

    private static void letBeIsHalf(Edge e) {
        e.says("Terms: 3 LET BE: half of that, cut");
        for (int held = 1; held <= 4; held++) {
            for (int ease : new int[] {1, 2, 7}) {
                TongueTip x = Edge.hall(hall(held, LET_BE, 1, ease, BY_LETTERS, 1, 1));
                comes(e, "HELD " + held + ", EASE " + ease, x, 1, 1, held * ease / 2);
                comes(e, "with help, HELD " + held + ", EASE " + ease, x, 21, 2, held, held * (ease + 2) / 2);
                comes(e, "it does not help, HELD " + held, x, 12, 2, held * ease / 2, held);
            }
        }
    }

    private static void letBeFromThenOn(Edge e) {
        e.says("Terms: LET BE: from then on (for itself, too) no WRONG NAME lies ACROSS in the ROW");
        TongueTip x = Edge.hall(hall(10, STRAIGHT, 1, 1, LET_BE, 1, 2, BY_LETTERS, 1, 3, BY_PLACE, 1, 4));
        x.put(0, 1);
        x.put(2, 60);
        comes(e, "itself", x, 2, 1, 10);
        comes(e, "ahead of it, then itself", x, 12, 2, 0, 10);
        comes(e, "behind it", x, 21, 2, 10, 10);
        comes(e, "all behind it", x, 2134, 4, 10, 10, 30, 60);
        comes(e, "some ahead, some behind", x, 3421, 4, 0, 0, 35, 60);
        comes(e, "the next ROW has it ACROSS again", x, 1, 1, 0);
        comes(e, "in the ROW alone", x, 134, 3, 0, 0, 0);
    }

    private static void askRoundAsIfTen(Edge e) {
        e.says("Terms: 4 ASK ROUND: that, as if HELD were 10");
        for (int held : new int[] {0, 1, 9, 10, 11, 20}) {
            TongueTip x = Edge.hall(hall(held, ASK_ROUND, 1, 1, ASK_ROUND, 1, 20, BY_LETTERS, 1, 1));
            comes(e, "least, HELD " + held, x, 1, 1, 10);
            comes(e, "most, HELD " + held, x, 2, 1, 200);
            comes(e, "with help, HELD " + held, x, 31, 2, held, 30);
            comes(e, "it does not help, HELD " + held, x, 13, 2, 10, held);
        }
    }

    private static void outrightOfNothing(Edge e) {
        e.says("Terms: 5 OUTRIGHT: 400");
        for (int held : new int[] {0, 1, 20}) {
            TongueTip x = Edge.hall(hall(held, OUTRIGHT, 1, 1, OUTRIGHT, 20, 20, STRAIGHT, 1, 1));
            comes(e, "least EASE, HELD " + held, x, 1, 1, 400);
            comes(e, "most EASE, HELD " + held, x, 2, 20, 400);
            comes(e, "and another behind, HELD " + held, x, 13, 2, 400, held);
            comes(e, "and another ahead, HELD " + held, x, 31, 2, held, 400);
        }
    }

    private static void noneLiesAcrossAtFirst(Edge e) {
        e.says("Terms: A WRONG NAME lies ACROSS for so many SECONDS (0 .. 60; 0 at first)");
        TongueTip x = Edge.hall(hall(10, STRAIGHT, 1, 10));
        comes(e, "at first", x, 1, 1, 100);
        x.put(2, 1);
        comes(e, "one SECOND", x, 1, 1, 0);
        x.put(2, 0);
        comes(e, "none", x, 1, 1, 100);
    }

    private static void aheadOfItsSeconds(Edge e) {
        e.says("Terms: ACROSS: a TRY that begins ahead of these has no CHANCE");
        for (int kind : new int[] {STRAIGHT, BY_LETTERS, BY_PLACE}) {
            TongueTip x = Edge.hall(hall(10, STRAIGHT, 3, 1, kind, 5, 10, STRAIGHT, 20, 1, STRAIGHT, 20, 1, STRAIGHT, 20, 1));
            x.put(0, 1);
            x.put(2, 2);
            comes(e, "it begins a SECOND behind, KIND " + kind, x, 12, 8, 0, 100);
            x.put(2, 3);
            comes(e, "it begins as it is over, KIND " + kind, x, 12, 8, 0, 100);
            x.put(2, 4);
            comes(e, "it begins a SECOND ahead, KIND " + kind, x, 12, 8, 0, 0);
            comes(e, "it ends behind, KIND " + kind, x, 2, 5, 0);
            x.put(2, 60);
            comes(e, "sixty SECONDS, KIND " + kind, x, 3452, 65, 0, 0, 0, 100);
            comes(e, "less than sixty, KIND " + kind, x, 3412, 48, 0, 0, 0, 0);
        }
    }

    private static void butThese(Edge e) {
        e.says("Terms: ACROSS: no CHANCE (but LET BE and ASK ROUND, OUTRIGHT)");
        TongueTip x = Edge.hall(hall(10, LET_BE, 1, 10, ASK_ROUND, 1, 10, OUTRIGHT, 1, 1, STRAIGHT, 1, 10));
        for (int across : new int[] {1, 60}) {
            x.put(2, across);
            comes(e, "LET BE, " + across, x, 1, 1, 50);
            comes(e, "ASK ROUND, " + across, x, 2, 1, 100);
            comes(e, "OUTRIGHT, " + across, x, 3, 1, 400);
        }
        comes(e, "behind ASK ROUND it lies there still", x, 24, 2, 100, 0);
        comes(e, "ahead of OUTRIGHT", x, 43, 2, 0, 400);
    }

    private static void helpsAllTheSame(Edge e) {
        e.says("Terms: ACROSS: no CHANCE, and helps all the same");
        TongueTip x = Edge.hall(hall(10, BY_LETTERS, 2, 10, BY_PLACE, 2, 10, STRAIGHT, 1, 1, ASK_ROUND, 1, 1));
        x.put(2, 4);
        comes(e, "BY LETTERS", x, 14, 3, 0, 30);
        comes(e, "BY PLACE", x, 24, 3, 0, 40);
        comes(e, "both", x, 123, 5, 0, 0, 60);
        x.put(2, 2);
        comes(e, "BY LETTERS", x, 13, 3, 0, 30);
        comes(e, "BY PLACE", x, 23, 3, 0, 40);
    }

    private static void chanceNowNotThen(Edge e) {
        e.says("Terms: HELD, at TRIES: on the DAY that is now");
        TongueTip x = Edge.hall(hall(2, STRAIGHT, 1, 10));
        x.days(6);
        comes(e, "a DAY ahead of its fall", x, 1, 1, 20);
        x.days(1);
        comes(e, "on that DAY", x, 1, 1, 10);
        x.days(7);
        comes(e, "none is left", x, 1, 1, 0);
        x.think(0);
        comes(e, "THOUGHT OF", x, 1, 1, 30);
    }

    private static void noTryAtAll(Edge e) {
        e.says("12: 0: none (COMES 0 by 1)");
        TongueTip x = Edge.hall(hall(20, STRAIGHT, 1, 20));
        comes(e, "one", x, 1, 1, 400);
        comes(e, "none", x, 0, 0);
        e.due("nothing is refused", x.status(0), 0);
        x = Edge.hall(hall(20));
        comes(e, "none of none", x, 0, 0);
    }

    private static void digitsOfARow(Edge e) {
        e.says("12: digits 1 .. 5 of a number for TRIES 0 .. 4, the first one highest: the SECONDS it takes");
        TongueTip x = Edge.hall(hall(10, BY_LETTERS, 1, 1, STRAIGHT, 2, 2, BY_PLACE, 4, 3, STRAIGHT, 8, 4, STRAIGHT, 16, 5));
        x.put(0, 1);
        int[] seconds = {1, 2, 4, 8, 16};
        int[] chances = {10, 20, 30, 40, 50};
        for (int i = 0; i < 5; i++) {
            comes(e, "one", x, i + 1, seconds[i], chances[i]);
        }
        comes(e, "the first one highest", x, 12, 3, 10, 40);
        comes(e, "the first one highest", x, 21, 3, 20, 10);
        comes(e, "five", x, 12345, 31, 10, 40, 50, 90, 100);
        comes(e, "five", x, 54321, 31, 50, 40, 30, 50, 40);
        e.due("nothing is refused", x.status(0), 0);
    }

    private static void badRow(Edge e, String what, Edge.Telling told, int row) {
        e.refused(what + " " + row, told, x -> x.comes(0, row), -2, Edge.BAD);
    }

    private static final Edge.Telling FIVE = hall(10, STRAIGHT, 1, 1, STRAIGHT, 1, 2, STRAIGHT, 1, 3, STRAIGHT, 1, 4, STRAIGHT, 1, 5);

    private static void noSuchDigit(Edge e) {
        e.says("12: BAD: a digit that is none, too");
        for (int row : new int[] {6, 7, 8, 9, 10, 20, 50, 16, 61, 101, 102, 1002, 10000, 12340, 10234, 12346, 54329, 60000, 99999}) {
            badRow(e, "a digit that is none", FIVE, row);
        }
        for (int row : new int[] {-1, -5, -12, -54321, MIN, MIN + 1, -2147483645}) {
            badRow(e, "less than none", FIVE, row);
        }
    }

    private static void noSuchTry(Edge e) {
        e.says("12: BAD: a digit for a TRY that there is not");
        for (int tries = 0; tries < 5; tries++) {
            int[] some = new int[3 * tries];
            Arrays.fill(some, 1);
            TongueTip x = Edge.hall(hall(10, some));
            if (tries > 0) {
                e.due("the last one", x.comes(0, tries), 1);
            }
            for (int digit = tries + 1; digit <= 5; digit++) {
                badRow(e, "of " + tries, hall(10, some), digit);
                if (tries > 0) {
                    badRow(e, "of " + tries, hall(10, some), 10 + digit);
                    badRow(e, "of " + tries, hall(10, some), 10 * digit + 1);
                }
            }
        }
    }

    private static void alikeInARow(Edge e) {
        e.says("12: BAD: TRIES alike");
        for (int row : new int[] {11, 22, 33, 44, 55, 121, 112, 211, 1231, 12344, 12341, 55555, 123451, 123455, 543211, 111111,
            1234512345, MAX, 1111111111}) {
            badRow(e, "alike", FIVE, row);
        }
    }

    private static void comesOfWhom(Edge e) {
        e.says("12: for one: BAD");
        for (int person : new int[] {-1, 12, 32, MIN, MAX}) {
            e.bad("comes of " + person, x -> x.comes(person, 0));
        }
        e.refused("one behind the last", Edge::busy, x -> x.comes(2, 1), -2, Edge.BAD);
        e.refused("the first of nobody", x -> x.addTry(0, 1, 1), x -> x.comes(0, 1), -2, Edge.BAD);
        TongueTip x = Edge.hall(Edge::full);
        e.due("the last one of twelve", x.comes(11, 54321), 15);
    }

    private static void bestOfWhomInWhat(Edge e) {
        e.says("13: BEST in T SECONDS (0 .. 60), of one: BAD");
        for (int t : new int[] {-1, 61, MIN, MAX}) {
            e.bad("best in " + t, x -> x.best(0, t));
        }
        for (int person : new int[] {-1, 12, 32, MIN, MAX}) {
            e.bad("best of " + person, x -> x.best(person, 5));
        }
        e.refused("one behind the last", Edge::busy, x -> x.best(2, 5), -2, Edge.BAD);
        e.refused("the first of nobody", x -> x.addTry(0, 1, 1), x -> x.best(0, 5), -2, Edge.BAD);
        TongueTip x = Edge.hall(hall(10, STRAIGHT, 1, 1));
        e.due("best in 0", x.best(0, 0), 0);
        e.due("best in 60", x.best(0, 60), 1);
        e.due("nothing is refused", x.status(0), 0);
    }

    private static void overByThen(Edge e) {
        e.says("Terms: BEST: ROWS that are over by then");
        TongueTip x = Edge.hall(hall(10, STRAIGHT, 20, 1, STRAIGHT, 20, 2, STRAIGHT, 20, 3, STRAIGHT, 1, 4));
        int[] seconds = {0, 1, 19, 20, 21, 39, 40, 41, 59, 60};
        int[] due = {0, 4, 4, 4, 34, 34, 34, 234, 234, 234};
        for (int i = 0; i < seconds.length; i++) {
            e.due("best in " + seconds[i], x.best(0, seconds[i]), due[i]);
        }
        x = Edge.hall(hall(10, STRAIGHT, 20, 1, STRAIGHT, 20, 2, STRAIGHT, 20, 3));
        int[] less = {0, 0, 0, 3, 3, 3, 23, 23, 23, 123};
        for (int i = 0; i < seconds.length; i++) {
            e.due("best of three in " + seconds[i], x.best(0, seconds[i]), less[i]);
        }
    }

    private static void noTryIsBest(Edge e) {
        e.says("Terms: BEST: that of no TRY, too: COMES 0 by 1");
        Edge.Telling[] halls = {hall(10), hall(0, STRAIGHT, 1, 20), hall(1, BY_PLACE, 1, 1), hall(1, LET_BE, 1, 1), hall(10, STRAIGHT, 20, 20)};
        int[] seconds = {60, 60, 60, 60, 19};
        for (int i = 0; i < halls.length; i++) {
            TongueTip x = Edge.hall(halls[i]);
            e.due("no TRY, hall " + i, x.best(0, seconds[i]), 0);
            e.fraction("no TRY, hall " + i, x, 0, 1);
        }
        TongueTip x = Edge.hall(hall(10, STRAIGHT, 1, 10));
        x.comes(0, 1);
        e.due("in 0 SECONDS", x.best(0, 0), 0);
        e.fraction("in 0 SECONDS", x, 0, 1);
        x.put(2, 1);
        e.due("a WRONG NAME lies across", x.best(0, 60), 0);
    }

    private static void fewestTries(Edge e) {
        e.says("Terms: BEST: of like ones the fewest TRIES");
        TongueTip x = Edge.hall(hall(20, STRAIGHT, 1, 1, OUTRIGHT, 1, 1));
        e.due("it comes by one", x.best(0, 60), 2);
        x = Edge.hall(hall(20, STRAIGHT, 1, 10, STRAIGHT, 1, 20, STRAIGHT, 1, 20));
        e.due("it comes by one", x.best(0, 60), 2);
        x = Edge.hall(hall(1, BY_PLACE, 1, 1, STRAIGHT, 1, 1, LET_BE, 1, 1));
        e.due("one that brings nothing is left away", x.best(0, 2), 12);
        x = Edge.hall(hall(2, LET_BE, 1, 1, STRAIGHT, 1, 1));
        e.due("nothing lies across: both bring something", x.best(0, 2), 12);
        x = Edge.hall(hall(1, LET_BE, 1, 1, STRAIGHT, 1, 1));
        e.due("nothing lies across: LET BE brings nothing", x.best(0, 2), 2);
    }

    private static void firstByNumbers(Edge e) {
        e.says("Terms: BEST: then the first by numbers");
        TongueTip x = Edge.hall(FIVE);
        e.due("five", x.best(0, 60), 12345);
        x = Edge.hall(hall(10, STRAIGHT, 1, 5, STRAIGHT, 1, 5, STRAIGHT, 1, 5, STRAIGHT, 1, 5, STRAIGHT, 1, 5));
        int[] due = {0, 1, 12, 123, 1234, 12345};
        for (int t = 0; t <= 5; t++) {
            e.due("alike ones in " + t, x.best(0, t), due[t]);
        }
        x = Edge.hall(hall(10, STRAIGHT, 2, 5, STRAIGHT, 1, 5, STRAIGHT, 1, 5));
        e.due("the first that fits", x.best(0, 1), 2);
        e.due("the first of one", x.best(0, 1), 2);
        e.due("two, the first that fit", x.best(0, 2), 23);
        e.due("two, the first", x.best(0, 3), 12);
    }

    /** As each BY LETTERS helps the next one, the ROW of rising EASE is the best one of as many. */
    private static void ofAllRows(Edge e) {
        e.says("Terms: BEST: of all ROWS (every one of the 326 is it in some hall)");
        for (int row = 12345; row <= 54321; row++) {
            int[] ease = new int[5];
            int place = 1;
            for (char digit : ("" + row).toCharArray()) {
                if (digit >= '1' && digit <= '5' && ease[digit - '1'] == 0) {
                    ease[digit - '1'] = place;
                    place++;
                }
            }
            if (place == 6) {
                TongueTip x = Edge.hall(hall(10, BY_LETTERS, 1, ease[0], BY_LETTERS, 1, ease[1], BY_LETTERS, 1, ease[2],
                    BY_LETTERS, 1, ease[3], BY_LETTERS, 1, ease[4]));
                int last = 1;
                for (int t = 0; t <= 5; t++) {
                    e.due("EASE rises as in " + row + ", in " + t, x.best(0, t), row % last);
                    last *= 10;
                }
            }
        }
    }

    private static void bestIsGreatest(Edge e) {
        e.says("13: COMES is THE FRACTION; the greatest, exactly");
        TongueTip x = Edge.hall(FIVE);
        x.best(0, 60);
        long missed = 390L * 380 * 370 * 360 * 350, whole = 400L * 400 * 400 * 400 * 400;
        long common = common(whole - missed, whole);
        e.fraction("all five", x, (whole - missed) / common, whole / common);
        // 399 by 400 missed against 399 by 400 and as little as there is
        x = Edge.hall(hall(1, STRAIGHT, 1, 1, STRAIGHT, 2, 1));
        e.due("a second one of 1 by 400", x.best(0, 3), 12);
        e.fraction("a second one of 1 by 400", x, 160000 - 399 * 399, 160000);
        x = Edge.hall(hall(20, OUTRIGHT, 11, 1, ASK_ROUND, 11, 20));
        e.due("OUTRIGHT, in eleven", x.best(0, 11), 1);
        e.fraction("OUTRIGHT, in eleven", x, 1, 1);
    }

    private static void wholeFifties(Edge e) {
        e.says("Terms: SHAME is 1 for each whole 50 of these");
        // ASK ROUND of EASE 2 k brings it by k of 20: as much as is due at a SHAME of 20 - k
        for (int shame = 10; shame <= 19; shame++) {
            Edge.Telling told = hall(20, ASK_ROUND, 1, 2 * (20 - shame));
            TongueTip x = Edge.hall(told);
            x.days(50 * shame - 1);
            e.due("a DAY ahead of SHAME " + shame, x.tell(0, 1), 1);
            x.days(1);
            e.due("on the DAY of SHAME " + shame, x.tell(0, 1), 0);
            x.days(49);
            e.due("49 DAYS behind it", x.tell(0, 1), 0);
            x.think(0);
            e.due("DAYS since one was last THOUGHT OF", x.tell(0, 1), 1);
        }
    }

    private static void shameOfTheLastDay(Edge e) {
        e.says("Terms: SHAME (20 at most): 19 is all that 999 DAYS give");
        TongueTip x = Edge.hall(hall(20, ASK_ROUND, 1, 1, ASK_ROUND, 2, 2));
        x.days(999);
        e.due("0 is less than 1 of 20", x.tell(0, 0), 1);
        e.due("half is less than 1 of 20", x.tell(0, 1), 1);
        e.due("1 is not less than 1 of 20", x.tell(0, 2), 0);
    }

    private static void noShame(Edge e) {
        e.says("Terms: TELL: no SHAME: less than 20 of 20");
        TongueTip x = Edge.hall(hall(20, STRAIGHT, 2, 20, STRAIGHT, 1, 19));
        e.due("nothing", x.tell(0, 0), 1);
        e.due("19 of 20", x.tell(0, 1), 1);
        e.due("20 of 20", x.tell(0, 2), 0);
        x.put(1, 99);
        x.days(49);
        e.due("49 DAYS: still none", x.tell(0, 1), 1);
        x.days(1);
        e.due("50 DAYS: 19 is not less than 19", x.tell(0, 1), 0);
    }

    private static void lessNotAsMuch(Edge e) {
        e.says("Terms: TELL: less than so much of 20 as 20 less SHAME is");
        for (int ease = 1; ease <= 20; ease++) {
            TongueTip x = Edge.hall(hall(20, ASK_ROUND, 1, ease));
            x.days(750);
            // ease by 2 of 20, and 5 of 20
            e.due("EASE " + ease + " at SHAME 15", x.tell(0, 1), ease < 10 ? 1 : 0);
        }
        TongueTip x = Edge.hall(hall(20, ASK_ROUND, 1, 2, ASK_ROUND, 1, 2));
        x.days(900);
        // 1 - 19 by 20 squared is 39 by 400: 1.95 of 20
        e.due("1.95 is less than 2", x.tell(0, 2), 1);
        x.days(50);
        e.due("1.95 is not less than 1", x.tell(0, 2), 0);
    }

    private static void withoutOutright(Edge e) {
        e.says("Terms: TELL: COMES of BEST in T without OUTRIGHT ones");
        TongueTip x = Edge.hall(hall(20, OUTRIGHT, 1, 20, ASK_ROUND, 1, 20));
        x.days(499);
        e.due("10 is less than 11", x.tell(0, 60), 1);
        x.days(1);
        e.due("10 is not less than 10", x.tell(0, 60), 0);
        x = Edge.hall(hall(20, OUTRIGHT, 1, 20));
        x.days(999);
        e.due("OUTRIGHT alone: 0 is less than 1", x.tell(0, 60), 1);
        x = Edge.hall(hall(20));
        e.due("no TRIES", x.tell(0, 60), 1);
        e.looks("THE FRACTION stays", Edge::busy, y -> y.tell(0, 60), 1);
    }

    private static void tellOfWhomInWhat(Edge e) {
        e.says("14: of one, in T (0 .. 60): BAD");
        for (int t : new int[] {-1, 61, MIN, MAX}) {
            e.bad("tell in " + t, x -> x.tell(0, t));
        }
        for (int person : new int[] {-1, 12, 32, MIN, MAX}) {
            e.bad("tell of " + person, x -> x.tell(person, 5));
        }
        e.refused("one behind the last", Edge::busy, x -> x.tell(2, 5), -2, Edge.BAD);
        e.refused("the first of nobody", x -> x.addTry(0, 1, 1), x -> x.tell(0, 5), -2, Edge.BAD);
        TongueTip x = Edge.hall(hall(20, STRAIGHT, 20, 20));
        e.due("in 0", x.tell(0, 0), 1);
        e.due("in 19", x.tell(0, 19), 1);
        e.due("in 20", x.tell(0, 20), 0);
        e.due("in 60", x.tell(0, 60), 0);
        e.due("nothing is refused", x.status(0), 0);
    }
}
