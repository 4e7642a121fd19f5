/** The sentences of 'Terms' and of promises 23 and 24 that name an edge, each with its own test. */
public final class EdgeNightTest {
    private static final int MAX = Edge.MAX, MIN = Edge.MIN;

    public static void main(String[] args) {
        Edge e = new Edge("EdgeNightTest");
        minutes(e);
        peopleTold(e);
        oneOfThese(e);
        timesItsLetters(e);
        fiveTimes(e);
        lawOfNone(e);
        laws(e);
        twoMoreIfSaid(e);
        twentyAtMost(e);
        heldNow(e);
        ofLikeOnesTheFirst(e);
        asFewAsCanBe(e);
        exactly(e);
        bothOfTwenty(e);
        bothSay(e);
        oneSaysAlone(e);
        bothWait(e);
        noneWouldDoBetter(e);
        e.end();
    }

    private static void person(TongueTip x, String name, int place, int job, int strength) {
        x.one(Due.name(name), 1, place, job, strength, 1);
    }

    /** One alone, JOB not as PLACE. */
    private static Edge.Telling alone(String name, int strength) {
        return x -> person(x, name, 0, 1, strength);
    }

    private static void minutes(Edge e) {
        e.says("23: M MINUTES (0 .. 99): BAD: -10");
        for (int m : new int[] {-1, 100, MIN, MAX}) {
            e.bad("learn in " + m, x -> x.learn(0, m, -1), -10);
            e.refused("learn in " + m, alone("a", 0), x -> x.learn(1, m, -1), -10, Edge.BAD);
            e.refused("how often in " + m, alone("a", 0), x -> x.learn(1, m, 0), -10, Edge.BAD);
        }
        e.looks("in 0", alone("a", 4), x -> x.learn(1, 0, -1), 4);
        e.looks("in 0", alone("a", 4), x -> x.learn(1, 0, 0), 0);
        e.looks("in 99", alone("a", 4), x -> x.learn(1, 99, -1), 14);
        e.looks("in 99", alone("a", 4), x -> x.learn(1, 99, 0), 5);
        // seven letters 5, 5, 4 times are 98 MINUTES, one letter once is one: 10 + 10 + 9 + 20
        Edge.Telling four = x -> {
            person(x, "abcdefg", 0, 1, 0);
            person(x, "abcdefg", 0, 1, 0);
            person(x, "abcdefg", 0, 1, 0);
            person(x, "a", 0, 1, 17);
        };
        e.looks("all of 99", four, x -> x.learn(15, 99, -1), 49);
        e.looks("a MINUTE less", four, x -> x.learn(15, 98, -1), 48);
    }

    private static void peopleTold(Edge e) {
        e.says("23: PEOPLE told (bits): BAD: -10: not one of these, too");
        for (int people : new int[] {-1, 4096, 8192, 65536, 1 << 30, MIN, MAX}) {
            e.bad("learn " + people, x -> x.learn(people, 5, -1), -10);
        }
        for (int n = 0; n <= 11; n++) {
            int count = n;
            Edge.Telling some = x -> {
                for (int i = 0; i < count; i++) {
                    person(x, "a", 0, 1, 1);
                }
            };
            e.looks("all of " + n, some, x -> x.learn((1 << count) - 1, 0, -1), n);
            e.refused("one more than " + n, some, x -> x.learn(1 << count, 0, -1), -10, Edge.BAD);
            e.refused("all and one more than " + n, some, x -> x.learn((2 << count) - 1, 0, -1), -10, Edge.BAD);
        }
        e.looks("none told", Edge::full, x -> x.learn(0, 99, -1), 0);
        e.looks("none told, nobody", Edge::nobody, x -> x.learn(0, 99, -1), 0);
    }

    private static void oneOfThese(Edge e) {
        e.says("23: how often one is said: BAD: -10: not one of these, too (NONE: left together)");
        for (int person : new int[] {-2, 0, 1, 12, 31, 32, 33, 63, 64, MIN, MAX}) {
            e.bad("how often " + person + " of none told", x -> x.learn(0, 5, person), -10);
        }
        Edge.Telling two = x -> {
            person(x, "a", 0, 1, 1);
            person(x, "a", 0, 1, 2);
        };
        for (int person : new int[] {-2, 2, 12, 31, 32, 33, 64, MIN, MAX}) {
            e.refused("how often " + person, two, x -> x.learn(3, 5, person), -10, Edge.BAD);
        }
        e.refused("the second, the first is told", two, x -> x.learn(1, 5, 1), -10, Edge.BAD);
        e.refused("the first, the second is told", two, x -> x.learn(2, 5, 0), -10, Edge.BAD);
        e.looks("the first", two, x -> x.learn(1, 5, 0), 5);
        e.looks("the second", two, x -> x.learn(2, 5, 1), 5);
        e.looks("left of the second", two, x -> x.learn(2, 5, -1), 12);
        Edge.Telling twelve = x -> {
            for (int i = 0; i < 12; i++) {
                person(x, "a", 0, 1, i);
            }
        };
        e.looks("the twelfth", twelve, x -> x.learn(2048, 99, 11), 4);
        e.looks("left of the twelfth", twelve, x -> x.learn(2048, 99, -1), 20);
    }

    private static void timesItsLetters(Edge e) {
        e.says("Terms: A NIGHT: said r times takes r times its letters");
        String letters = "abcdefg";
        int[] law = {0, 3, 6, 8, 9, 10};
        for (int n = 1; n <= 7; n++) {
            String name = letters.substring(0, n);
            for (int r = 1; r <= 5; r++) {
                int times = r, takes = r * n;
                e.looks(name + " " + r + " times", alone(name, 0), x -> x.learn(1, takes, 0), r);
                e.looks(name + " " + r + " times: left", alone(name, 0), x -> x.learn(1, takes, -1), law[r]);
                e.looks(name + " a MINUTE too few", alone(name, 0), x -> x.learn(1, takes - 1, 0), times - 1);
                e.looks(name + " a MINUTE too few: left", alone(name, 0), x -> x.learn(1, takes - 1, -1), law[r - 1]);
            }
        }
        // BEATS take nothing: two letters of 5 BEATS, seven of 1, one of 3
        Edge.Telling three = x -> {
            x.one(Due.name("ab"), 5, 0, 1, 0, 1);
            x.one(Due.name("abcdefg"), 1, 0, 1, 0, 1);
            x.one(Due.name("a"), 3, 0, 1, 12, 1);
        };
        int[] minutes = {0, 1, 2, 3, 4, 5, 6, 7, 8, 9, 12, 19, 20, 24, 25, 47, 48};
        int[] left = {12, 15, 18, 20, 21, 23, 24, 26, 26, 28, 29, 32, 33, 34, 35, 39, 40};
        int[][] times = {{0, 0, 0}, {0, 0, 1}, {0, 0, 2}, {0, 0, 3}, {1, 0, 2}, {1, 0, 3}, {2, 0, 2}, {2, 0, 3}, {2, 0, 3}, {3, 0, 3},
            {4, 0, 3}, {4, 1, 3}, {5, 1, 3}, {3, 2, 3}, {4, 2, 3}, {4, 5, 3}, {5, 5, 3}};
        threeInTheNight(e, three, minutes, left, times);
    }

    private static void threeInTheNight(Edge e, Edge.Telling three, int[] minutes, int[] left, int[][] times) {
        for (int k = 0; k < minutes.length; k++) {
            int m = minutes[k];
            e.looks("left in " + m, three, x -> x.learn(7, m, -1), left[k]);
            for (int i = 0; i < 3; i++) {
                int person = i;
                e.looks("times of " + i + " in " + m, three, x -> x.learn(7, m, person), times[k][i]);
            }
        }
    }

    private static void fiveTimes(Edge e) {
        e.says("Terms: A NIGHT: each is said r times (0 .. 5)");
        for (int m : new int[] {5, 6, 99}) {
            e.looks("five times in " + m, alone("a", 0), x -> x.learn(1, m, 0), 5);
            e.looks("left in " + m, alone("a", 0), x -> x.learn(1, m, -1), 10);
        }
        e.looks("never", alone("a", 0), x -> x.learn(1, 0, 0), 0);
    }

    private static void lawOfNone(Edge e) {
        e.says("Terms: A NIGHT: LAW of r (0 of 0)");
        Edge.Telling told = x -> {
            alone("ab", 7).to(x);
            for (int r = 1; r <= 5; r++) {
                x.put(2 + r, 20);
            }
        };
        e.looks("not said", told, x -> x.learn(1, 1, -1), 7);
        e.looks("said", told, x -> x.learn(1, 2, -1), 20);
        e.looks("LAWS of 0: not said, as it gives nothing", x -> {
            alone("a", 7).to(x);
            for (int r = 1; r <= 5; r++) {
                x.put(2 + r, 0);
            }
        }, x -> x.learn(1, 99, 0), 0);
    }

    private static void laws(Edge e) {
        e.says("Terms: A NIGHT: LAWS of 1 .. 5, each 0 .. 20, told; 3 6 8 9 10 at first");
        int[] first = {0, 3, 6, 8, 9, 10};
        for (int r = 1; r <= 5; r++) {
            int times = r;
            e.looks("at first " + r, alone("a", 1), x -> x.learn(1, times, -1), 1 + first[r]);
            Edge.Telling most = x -> {
                alone("a", 0).to(x);
                for (int k = 1; k <= 5; k++) {
                    x.put(2 + k, k == times ? 20 : 0);
                }
            };
            e.looks("20 of " + r, most, x -> x.learn(1, times, -1), 20);
            e.looks("20 of " + r + ", how often", most, x -> x.learn(1, 99, 0), r);
            e.looks("20 of " + r + ", a MINUTE too few", most, x -> x.learn(1, times - 1, -1), 0);
        }
    }

    private static void twoMoreIfSaid(Edge e) {
        e.says("Terms: A NIGHT: 2 more, if it is said at all and the JOB is in its PLACE (JOB as PLACE)");
        for (int place = 0; place <= 5; place++) {
            for (int job = 0; job <= 5; job++) {
                int p = place, j = job, two = place == job ? 2 : 0;
                Edge.Telling told = x -> person(x, "ab", p, j, 5);
                e.looks("not said, " + p + " " + j, told, x -> x.learn(1, 1, -1), 5);
                e.looks("said once, " + p + " " + j, told, x -> x.learn(1, 2, -1), 8 + two);
                e.looks("said twice, " + p + " " + j, told, x -> x.learn(1, 4, -1), 11 + two);
                e.looks("said five times, " + p + " " + j, told, x -> x.learn(1, 10, -1), 15 + two);
            }
        }
        e.looks("HERE is another PLACE", x -> {
            person(x, "ab", 3, 3, 5);
            x.put(0, 1);
        }, x -> x.learn(1, 2, -1), 10);
        e.looks("said once for these 2 alone", x -> {
            person(x, "a", 3, 3, 5);
            for (int r = 1; r <= 5; r++) {
                x.put(2 + r, 0);
            }
        }, x -> x.learn(1, 99, 0), 1);
    }

    private static void twentyAtMost(Edge e) {
        e.says("Terms: A NIGHT: 20 at most");
        for (int strength = 5; strength <= 20; strength++) {
            int s = strength;
            int[] law = {0, 3, 6, 8, 9, 10};
            for (int r = 0; r <= 5; r++) {
                int times = r;
                e.looks("of " + s + ", said " + r, alone("a", s), x -> x.learn(1, times, -1), Math.min(20, s + law[r]));
            }
            e.looks("of " + s + ", JOB as PLACE", x -> person(x, "a", 2, 2, s), x -> x.learn(1, 5, -1), Math.min(20, s + 12));
        }
        e.looks("two of 20", x -> {
            person(x, "a", 2, 2, 20);
            person(x, "a", 2, 2, 19);
        }, x -> x.learn(3, 99, -1), 40);
    }

    private static void heldNow(Edge e) {
        e.says("Terms: A NIGHT: HELD (now)");
        int[] days = {6, 7, 13, 14, 28, 35, 999};
        int[] left = {4, 3, 3, 2, 0, 0, 0};
        for (int i = 0; i < days.length; i++) {
            int n = days[i];
            Edge.Telling told = x -> {
                alone("a", 4).to(x);
                x.days(n);
            };
            e.looks("behind DAYS " + n, told, x -> x.learn(1, 0, -1), left[i]);
            e.looks("said once behind DAYS " + n, told, x -> x.learn(1, 1, -1), left[i] + 3);
        }
        TongueTip x = Edge.hall(alone("a", 4));
        for (int strength = 4; strength >= 0; strength--) {
            e.due("no MINUTE, asked again", x.learn(1, 0, -1), strength);
            e.due("one MINUTE, asked again", x.learn(1, 1, -1), strength + 3);
            e.due("99 MINUTES, asked again", x.learn(1, 99, -1), strength + 10);
            x.days(7);
        }
    }

    private static void ofLikeOnesTheFirst(Edge e) {
        e.says("Terms: LEARN: of like ones the first (times of the least of PEOPLE as few as can be, then of the next)");
        Edge.Telling three = x -> {
            for (int i = 0; i < 3; i++) {
                person(x, "a", 0, 1, 0);
            }
        };
        // 3 6 8 9 10: gains of 3 3 2 1 1, so in each MINUTE the last ones are taken first
        int[][] due = {{0, 0, 0}, {0, 0, 1}, {0, 0, 2}, {0, 1, 2}, {0, 2, 2}, {1, 2, 2}, {2, 2, 2}, {2, 2, 3}, {2, 3, 3}, {3, 3, 3},
            {3, 3, 4}, {3, 3, 5}, {3, 4, 5}, {3, 5, 5}, {4, 5, 5}, {5, 5, 5}, {5, 5, 5}};
        int[] left = {0, 3, 6, 9, 12, 15, 18, 20, 22, 24, 25, 26, 27, 28, 29, 30, 30};
        int[] minutes = {0, 1, 2, 3, 4, 5, 6, 7, 8, 9, 10, 11, 12, 13, 14, 15, 16};
        threeInTheNight(e, three, minutes, left, due);
        e.looks("of the first and the third", three, x -> x.learn(5, 3, 0), 1);
        e.looks("of the first and the third", three, x -> x.learn(5, 3, 2), 2);
    }

    private static void asFewAsCanBe(Edge e) {
        e.says("Terms: LEARN: times as few as can be (none that gives nothing)");
        for (int strength : new int[] {20, 18, 17, 15, 14, 12, 11, 10, 9}) {
            int s = strength;
            int times = s == 20 ? 0 : s >= 17 ? 1 : s >= 14 ? 2 : s >= 12 ? 3 : s == 11 ? 4 : 5;
            e.looks("of " + s, alone("a", s), x -> x.learn(1, 99, 0), times);
        }
        e.looks("LAWS that fall", x -> {
            alone("a", 0).to(x);
            x.put(3, 9);
        }, x -> x.learn(1, 4, 0), 1);
        e.looks("a LAW that is as much", x -> {
            alone("a", 0).to(x);
            x.put(3, 6);
        }, x -> x.learn(1, 2, 0), 1);
    }

    private static void exactly(Edge e) {
        e.says("Terms: LEARN: most left of all of these together");
        // in 7: the long one once is 3, the short ones 5 and 2 times are 16, 4 and 3 times 17
        Edge.Telling three = x -> {
            person(x, "abcdefg", 0, 1, 0);
            person(x, "a", 0, 1, 0);
            person(x, "b", 0, 1, 0);
        };
        e.looks("two of one letter", three, x -> x.learn(7, 7, -1), 17);
        e.looks("the long one is not said", three, x -> x.learn(7, 7, 0), 0);
        e.looks("in 99", three, x -> x.learn(7, 99, -1), 30);
        e.looks("in 44", three, x -> x.learn(7, 44, -1), 29);
        e.looks("in 45", three, x -> x.learn(7, 45, -1), 30);
        e.looks("those that are not told are not said", three, x -> x.learn(1, 99, -1), 10);
    }

    private static void bothOfTwenty(Edge e) {
        e.says("24: a of 20, b of 20 (0 .. 20): BAD");
        for (int v : new int[] {-1, 21, MIN, MAX}) {
            e.bad("rests " + v + " 0", x -> x.rests(v, 0));
            e.bad("rests 0 " + v, x -> x.rests(0, v));
            e.bad("rests " + v + " " + v, x -> x.rests(v, v));
        }
        e.looks("0 0", Edge::nobody, x -> x.rests(0, 0), 7);
        e.looks("20 20", Edge::nobody, x -> x.rests(20, 20), 8);
        e.looks("20 0", Edge::nobody, x -> x.rests(20, 0), 2);
        e.looks("0 20", Edge::nobody, x -> x.rests(0, 20), 4);
        e.looks("at a busy one", Edge::busy, x -> x.rests(10, 10), 6);
    }

    private static void rest(Edge e, int a, int b, int bit, int due) {
        TongueTip x = new TongueTip();
        e.due("rests " + a + " " + b + ", bit " + bit, x.rests(a, b) >> bit & 1, due);
    }

    private static void bothSay(Edge e) {
        e.says("Terms: RESTS: bit 0 both SAY (costs 4, if known; else 0; to WAIT then costs 0)");
        rest(e, 0, 0, 0, 1);
        for (int known = 1; known <= 20; known++) {
            rest(e, known, 0, 0, 0);
            rest(e, 0, known, 0, 0);
            rest(e, known, known, 0, 0);
        }
    }

    private static void oneSaysAlone(Edge e) {
        e.says("Terms: RESTS: bits 1 he SAYS alone, 2 she SAYS alone (KNOWN is he by b, she by a)");
        for (int other = 0; other <= 20; other++) {
            for (int known = 0; known <= 20; known++) {
                // 4 of 20 times known against 10 of 20 times not known: as much at 14.28
                int due = known <= 14 ? 1 : 0;
                rest(e, other, known, 1, due);
                rest(e, known, other, 2, due);
            }
        }
    }

    private static void bothWait(Edge e) {
        e.says("Terms: RESTS: bit 3 both WAIT (costs 10, if both WAIT and his is not known)");
        for (int a = 0; a <= 20; a++) {
            for (int b = 0; b <= 20; b++) {
                rest(e, a, b, 3, a >= 15 && b >= 15 ? 1 : 0);
            }
        }
    }

    private static void noneWouldDoBetter(Edge e) {
        e.says("Terms: RESTS: neither would do better by the other (as well is not better)");
        // known by none: to SAY costs 0, to WAIT as she SAYS 0, too
        rest(e, 0, 0, 1, 1);
        rest(e, 0, 0, 2, 1);
        rest(e, 0, 0, 3, 0);
        e.looks("all three", Edge::nobody, x -> x.rests(0, 0), 7);
        e.looks("at least one always rests", Edge::nobody, x -> x.rests(15, 14), 2);
        e.looks("at least one always rests", Edge::nobody, x -> x.rests(14, 15), 4);
    }
}
