/** Promises 12 to 14 and 25: whether it comes, the best ROW, whether to tell, THE FRACTION. */
public final class TriesTest {
    private static final int MAX = Integer.MAX_VALUE, MIN = Integer.MIN_VALUE;

    public static void main(String[] args) {
        Due d = new Due("TriesTest");
        kinds(d);
        helps(d);
        across(d);
        rows(d);
        best(d);
        bestOfLikeOnes(d);
        tell(d);
        part(d);
        d.end();
    }

    /** One of STRENGTH 13 at PLACE 1, and tries of all kinds but one. */
    private static TongueTip hall(int... kindsSecondsEases) {
        TongueTip x = new TongueTip();
        x.one(Due.name("rita"), 2, 1, 1, 13, 4);
        for (int i = 0; i < kindsSecondsEases.length; i += 3) {
            x.addTry(kindsSecondsEases[i], kindsSecondsEases[i + 1], kindsSecondsEases[i + 2]);
        }
        return x;
    }

    private static void kinds(Due d) {
        // of 400: 13 * 7 = 91; elsewhere and let be 45; round 70
        TongueTip x = hall(0, 1, 7, 1, 2, 7, 2, 3, 7, 3, 4, 7, 4, 5, 7);
        d.due("none", x.comes(0, 0), 0);
        d.fraction("none", x, 0, 1);
        d.due("STRAIGHT", x.comes(0, 1), 1);
        d.fraction("STRAIGHT", x, 91, 400);
        d.due("BY LETTERS", x.comes(0, 2), 2);
        d.fraction("BY LETTERS", x, 91, 400);
        d.due("BY PLACE, elsewhere", x.comes(0, 3), 3);
        d.fraction("BY PLACE, elsewhere", x, 45, 400);
        x.put(0, 1);
        d.due("BY PLACE, here", x.comes(0, 3), 3);
        d.fraction("BY PLACE, here", x, 91, 400);
        d.due("LET BE", x.comes(0, 4), 4);
        d.fraction("LET BE", x, 45, 400);
        d.due("ASK ROUND", x.comes(0, 5), 5);
        d.fraction("ASK ROUND", x, 70, 400);
        x = hall(5, 20, 1);
        d.due("OUTRIGHT", x.comes(0, 1), 20);
        d.fraction("OUTRIGHT", x, 1, 1);
        x.days(91);
        d.due("OUTRIGHT of one gone", x.comes(0, 1), 20);
        d.fraction("OUTRIGHT of one gone", x, 1, 1);
        x = hall(0, 1, 7, 4, 1, 20);
        x.days(91);
        d.due("STRAIGHT of one gone", x.comes(0, 1), 1);
        d.fraction("STRAIGHT of one gone", x, 0, 1);
        d.due("ASK ROUND of one gone", x.comes(0, 2), 1);
        d.fraction("ASK ROUND of one gone", x, 1, 2);
        x = hall(0, 1, 7);
        x.days(6);
        x.comes(0, 1);
        d.fraction("a day ahead of its fall", x, 91, 400);
        x.days(1);
        x.comes(0, 1);
        d.fraction("on the day of its fall", x, 84, 400);
        x.days(84);
        d.due("what is HELD now", x.think(0), 3);
        x.comes(0, 1);
        d.fraction("STRAIGHT of one thought of", x, 21, 400);
    }

    private static void helps(Due d) {
        // BY LETTERS gives 2, BY PLACE 3, the others nothing; 20 together at most.
        TongueTip x = hall(1, 1, 1, 2, 1, 1, 0, 1, 10, 3, 1, 18, 4, 1, 17);
        x.put(0, 1);
        x.comes(0, 13);
        d.fraction("help of BY LETTERS", x, 160000 - (400 - 13) * (400 - 156), 160000);
        x.comes(0, 23);
        d.fraction("help of BY PLACE", x, 160000 - (400 - 13) * (400 - 169), 160000);
        x.comes(0, 123);
        d.fraction("help of both", x, 64000000 - 387L * (400 - 39) * (400 - 195), 64000000);
        x.comes(0, 214);
        // 400 - 13, 400 - 13 * 4, 400 - 13 * 20 / 2
        d.fraction("20 at most, LET BE", x, 64000000 - 387L * 348 * 270, 64000000);
        x.comes(0, 215);
        d.fraction("20 at most, ASK ROUND", x, 64000000 - 387L * 348 * 200, 64000000);
        x.comes(0, 31);
        d.fraction("no help behind STRAIGHT", x, 160000 - 270L * 387, 160000);
        x.comes(0, 41);
        d.fraction("no help behind LET BE", x, 160000 - 283L * 387, 160000);
        x.comes(0, 51);
        d.fraction("no help behind ASK ROUND", x, 160000 - 230L * 387, 160000);
        x.put(0, 0);
        x.comes(0, 23);
        d.fraction("BY PLACE elsewhere helps as well", x, 160000 - 394L * 231, 160000);
    }

    private static void across(Due d) {
        TongueTip x = hall(0, 3, 10, 1, 4, 10, 3, 2, 10, 4, 5, 10, 5, 1, 10);
        x.put(2, 3);
        d.due("STRAIGHT ahead of it", x.comes(0, 1), 3);
        d.fraction("STRAIGHT ahead of it", x, 0, 1);
        x.comes(0, 2);
        d.fraction("BY LETTERS ahead of it", x, 0, 1);
        x.comes(0, 3);
        d.fraction("LET BE", x, 65, 400);
        x.comes(0, 4);
        d.fraction("ASK ROUND", x, 1, 4);
        x.comes(0, 5);
        d.fraction("OUTRIGHT", x, 1, 1);
        d.due("the second begins as it is over", x.comes(0, 12), 7);
        d.fraction("the second begins as it is over", x, 13, 40);
        x.put(2, 4);
        d.due("the second begins a second too early", x.comes(0, 12), 7);
        d.fraction("the second begins a second too early", x, 0, 1);
        d.due("it helps all the same", x.comes(0, 21), 7);
        d.fraction("it helps all the same", x, 13 * 12, 400);
        x.put(2, 60);
        d.due("behind LET BE nothing lies across", x.comes(0, 321), 9);
        d.fraction("behind LET BE", x, 64000000 - 335L * 270 * 244, 64000000);
        d.due("ahead of LET BE it does", x.comes(0, 132), 9);
        d.fraction("ahead of LET BE", x, 160000 - 335L * 270, 160000);
        d.due("ASK ROUND leaves it", x.comes(0, 41), 8);
        d.fraction("ASK ROUND leaves it", x, 1, 4);
        x = hall(2, 3, 10, 0, 1, 10);
        x.put(2, 1);
        x.put(0, 1);
        x.comes(0, 1);
        d.fraction("BY PLACE ahead of it", x, 0, 1);
        x.comes(0, 12);
        d.fraction("BY PLACE helps all the same", x, 169, 400);
    }

    private static void rows(Due d) {
        TongueTip x = hall(0, 1, 7, 1, 2, 7, 2, 3, 7);
        x.comes(0, 1);
        int[] wrong = {4, 5, 6, 9, 10, 11, 22, 121, 101, 1203, 14, 41, 1231, 123123, 100001, 1000001, -1, -12, MAX, MIN,
            54321, 12345, 20, 100, 1000000000};
        for (int row : wrong) {
            d.due("comes, wrong row " + row, x.comes(0, row), -2);
        }
        int[] people = {-1, 1, 12, MAX, MIN};
        for (int person : people) {
            d.due("comes, wrong person", x.comes(person, 0), -2);
        }
        d.due("BAD", x.status(0), wrong.length + people.length);
        d.fraction("what was refused", x, 91, 400);
        d.due("all three", x.comes(0, 321), 6);
        x.addTry(0, 20, 1);
        x.addTry(0, 20, 1);
        d.due("all five", x.comes(0, 54321), 46);
        d.due("all five", x.comes(0, 12345), 46);
        d.due("six", x.comes(0, 123451), -2);
    }

    private static void best(Due d) {
        TongueTip x = hall(0, 3, 10, 1, 4, 8, 2, 2, 6, 3, 5, 12, 4, 6, 1);
        d.due("best in 0", x.best(0, 0), 0);
        d.fraction("best in 0", x, 0, 1);
        d.due("best in 1", x.best(0, 1), 0);
        d.due("best in 2", x.best(0, 2), 3);
        d.fraction("best in 2", x, 39, 400);
        // in 5: 31 (39, then 13 * 13) against 1, 2, 4, 13
        d.due("best in 5", x.best(0, 5), 31);
        d.fraction("best in 5", x, 160000 - 361 * 231, 160000);
        d.due("best, wrong", x.best(0, -1), -2);
        d.due("best, wrong", x.best(0, 61), -2);
        d.due("best, wrong", x.best(0, MAX), -2);
        d.due("best, wrong", x.best(0, MIN), -2);
        d.due("best, wrong", x.best(1, 5), -2);
        d.due("best, wrong", x.best(-1, 5), -2);
        d.due("best, wrong", x.best(MAX, 5), -2);
        d.fraction("what was refused", x, 160000 - 361 * 231, 160000);
        d.due("BAD", x.status(0), 7);
        x = new TongueTip();
        x.one(Due.name("rita"), 2, 1, 1, 13, 4);
        d.due("best without tries", x.best(0, 60), 0);
        d.fraction("best without tries", x, 0, 1);
    }

    private static void bestOfLikeOnes(Due d) {
        TongueTip x = hall(0, 2, 10, 0, 1, 10, 0, 3, 10);
        d.due("the first by numbers", x.best(0, 3), 12);
        d.due("the first by numbers", x.best(0, 2), 1);
        d.due("the first by numbers", x.best(0, 1), 2);
        d.due("the first by numbers", x.best(0, 60), 123);
        x.addTry(5, 1, 1);
        x.addTry(5, 1, 1);
        d.due("the fewest TRIES", x.best(0, 60), 4);
        d.fraction("the fewest TRIES", x, 1, 1);
        x = hall(0, 2, 10, 3, 1, 10);
        x.days(91);
        d.due("no chance, no TRY", x.best(0, 60), 0);
        d.fraction("no chance, no TRY", x, 0, 1);
        x = hall(0, 1, 1, 0, 1, 1, 0, 1, 1, 0, 1, 1, 0, 1, 1);
        d.due("all five, the first by numbers", x.best(0, 5), 12345);
        d.due("four, the first by numbers", x.best(0, 4), 1234);
        d.fraction("four", x, 400L * 400 * 400 * 400 - 387L * 387 * 387 * 387, 400L * 400 * 400 * 400);
        // the greater EASE behind the more HELP: 1, 1 + 3, 2 + 5, 3 + 7, 4 + 9
        x = hall(0, 1, 4, 1, 1, 3, 1, 1, 2, 1, 1, 1, 2, 1, 1);
        x.put(0, 1);
        d.due("all five, the last by numbers", x.best(0, 60), 54321);
        long missed = (400 - 13) * (400L - 13 * 4) * (400 - 13 * 7) * (400 - 13 * 10) * (400 - 13 * 13);
        d.fraction("all five", x, 400L * 400 * 400 * 400 * 400 - missed, 400L * 400 * 400 * 400 * 400);
        x = hall(1, 20, 20, 1, 20, 1, 0, 20, 19);
        d.due("just over by then", x.best(0, 60), 123);
        d.due("not over by then", x.best(0, 59), 13);
    }

    private static void tell(Due d) {
        // 13 * 20 of 400 is 13 of 20, which is as much as 20 less a SHAME of 7: not less.
        TongueTip x = hall(0, 5, 20, 5, 1, 1);
        x.put(1, 99);
        x.comes(0, 1);
        x.days(98);
        d.due("SHAME 1", x.tell(0, 5), 1);
        d.fraction("tell", x, 13, 20);
        d.due("in time", x.tell(0, 60), 1);
        d.due("OUTRIGHT is not taken", x.tell(0, 1), 1);
        x = hall(4, 5, 20, 5, 1, 1);
        // 10 of 20, always; SHAME is 10 behind 500 days
        d.due("tell at once", x.tell(0, 5), 1);
        x.days(499);
        d.due("SHAME 9: 10 is less than 11", x.tell(0, 5), 1);
        x.days(1);
        d.due("SHAME 10: 10 is not less than 10", x.tell(0, 5), 0);
        d.due("not in time: 0 is less than 10", x.tell(0, 4), 1);
        x.days(499);
        d.due("SHAME 19", x.tell(0, 5), 0);
        d.due("SHAME 19: 0 is less than 1", x.tell(0, 4), 1);
        x.think(0);
        d.due("no SHAME", x.tell(0, 5), 1);
        d.due("tell, wrong", x.tell(0, -1), -2);
        d.due("tell, wrong", x.tell(0, 61), -2);
        d.due("tell, wrong", x.tell(0, MAX), -2);
        d.due("tell, wrong", x.tell(1, 5), -2);
        d.due("tell, wrong", x.tell(-1, 5), -2);
        d.due("tell, wrong", x.tell(MIN, MIN), -2);
        d.due("BAD", x.status(0), 6);
        // 12 * 16 of 400 is 9.6 of 20
        x = hall(0, 5, 16);
        x.put(1, 99);
        x.days(500);
        x.put(1, 50);
        x.one(Due.name("rosa"), 1, 0, 0, 12, 1);
        d.due("9.6 is less than 20", x.tell(1, 5), 1);
        x.put(1, 99);
        x.days(98);
        d.due("9.6 is less than 19", x.tell(1, 5), 1);
        x = new TongueTip();
        x.one(Due.name("rosa"), 1, 0, 0, 17, 1);
        x.addTry(0, 5, 16);
        x.put(1, 99);
        x.days(499);
        // HELD is 12: 9.6 of 20
        d.due("9.6 is less than 11", x.tell(0, 5), 1);
        x.put(1, 95);
        x.days(1);
        d.due("9.6 is less than 10", x.tell(0, 5), 1);
        x.days(50);
        x.put(1, 99);
        d.due("9.6 is not less than 9", x.tell(0, 5), 0);
        x = hall(5, 1, 1);
        d.due("OUTRIGHT alone", x.tell(0, 60), 1);
        x = new TongueTip();
        x.one(Due.name("rita"), 2, 1, 1, 20, 4);
        x.addTry(0, 1, 20);
        d.due("it comes for sure", x.tell(0, 1), 0);
        d.due("no time", x.tell(0, 0), 1);
    }

    private static void part(Due d) {
        TongueTip x = hall(0, 1, 7);
        int[] wrong = {-1, 2, MAX, MIN};
        for (int what : wrong) {
            d.due("part, wrong", x.part(what), -2);
        }
        d.due("BAD", x.status(0), wrong.length);
        x.comes(0, 1);
        d.due("above", x.part(0), 91);
        d.due("below", x.part(1), 400);
        x.comes(0, 2);
        d.due("above", x.part(0), 91);
        x.comes(0, 0);
        d.due("above", x.part(0), 0);
        d.due("below", x.part(1), 1);
    }
}
