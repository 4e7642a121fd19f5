/** The sentences of 'Terms' and of promises 15 to 22 that name an edge of PARTS, each with its own test. */
public final class EdgeWhoseTest {
    private static final int MAX = Edge.MAX, MIN = Edge.MIN;
    private static final int[] LEAST = {0, 1, 1, 0, 0};
    private static final int[] MOST = {25, 7, 5, 5, 5};

    public static void main(String[] args) {
        Edge e = new Edge("EdgeWhoseTest");
        boundsOfParts(e);
        partsThatAreNone(e);
        notHad(e);
        whoseOfNobody(e);
        whoseWithoutParts(e);
        allOfThese(e);
        bitsOfTwelve(e);
        oddsOfWhom(e);
        notOneOfWhose(e);
        oddsOfTheOnlyOne(e);
        nextOfThoseLeft(e);
        nextBySeen(e);
        nextOfLikeOnes(e);
        nextOfWhatOneHasNot(e);
        oneHasAll(e);
        whoseIsNobody(e);
        questionsAsTheyCome(e);
        numbersOfAQuestion(e);
        fullOfQuestions(e);
        askFewestFirst(e);
        askShowsLeast(e);
        askTheLeast(e);
        askOfWhatOneHasNot(e);
        askNone(e);
        askOfNobody(e);
        indexOfNobody(e);
        indexFewest(e);
        indexLeastBits(e);
        indexNone(e);
        asManyLetters(e);
        atMost(e);
        boundsOfPlaces(e);
        byNumbers(e);
        notSoMany(e);
        e.end();
    }

    private static void person(TongueTip x, String name, int beats, int place, int job, int seen) {
        x.one(Due.name(name), beats, place, job, 10, seen);
    }

    private static void boundsOfParts(Edge e) {
        String[] called = {"0 .. 25 letters", "1 .. 7 of them", "BEATS 1 .. 5", "PLACE 0 .. 5", "JOB 0 .. 5"};
        for (int part = 0; part < 5; part++) {
            int p = part;
            e.says("15: " + called[p] + ": what it was; BAD: -10");
            for (int v : new int[] {LEAST[p] == 0 ? -2 : 0, MOST[p] + 1, -2, MIN, MAX}) {
                e.bad("has " + v, x -> x.has(p, v), -10);
            }
            for (int v : new int[] {LEAST[p], MOST[p]}) {
                TongueTip x = new TongueTip();
                e.due("has " + v, x.has(p, v), -1);
                long[] now = {0, 0, 0, 0, 0, 0, 0, 7, 0, 3, 6, 8, 9, 10, -1, -1, -1, -1, -1, 0, 1};
                now[14 + p] = v;
                e.due("kept: " + v, x.digest(), Edge.mixed(now));
                e.due("has it again: what it was", x.has(p, v), v);
                e.due("nothing is refused", x.status(0) + x.status(1) + x.status(2), 0);
            }
        }
    }

    private static void partsThatAreNone(Edge e) {
        e.says("15: PARTS 0 .. 4: BAD: -10");
        for (int part : new int[] {-1, 5, -2, 6, 32, MIN, MAX}) {
            e.bad("has " + part, x -> x.has(part, 0), -10);
            e.bad("has " + part, x -> x.has(part, 1), -10);
            e.bad("has not " + part, x -> x.has(part, -1), -10);
        }
    }

    private static void notHad(Edge e) {
        e.says("15: NONE: not: what it was");
        for (int part = 0; part < 5; part++) {
            int p = part;
            Edge.Telling had = x -> x.has(p, MOST[p]);
            e.taken("has not " + p, had, x -> x.has(p, -1), MOST[p], Edge::nobody);
            e.looks("has not, at first " + p, Edge::nobody, x -> x.has(p, -1), -1);
        }
    }

    private static void whoseOfNobody(Edge e) {
        e.says("16: WHOSE, of nobody: no bits");
        e.looks("nobody", Edge::nobody, x -> x.whose(), 0);
        e.looks("nobody, one has a PART", x -> x.has(0, 0), x -> x.whose(), 0);
        e.looks("none of two", Edge::busy, x -> x.whose(), 1);
        e.looks("none of two", x -> {
            Edge.busy(x);
            x.has(2, 5);
        }, x -> x.whose(), 0);
    }

    private static void whoseWithoutParts(Edge e) {
        e.says("Terms: WHAT ONE HAS: of some PARTS (of none at first): WHOSE is then all");
        for (int n = 1; n <= 12; n++) {
            int people = n;
            Edge.Telling told = x -> {
                for (int i = 0; i < people; i++) {
                    person(x, "a", 1, i % 6, 0, 1);
                }
            };
            e.looks("all of " + n, told, x -> x.whose(), (1 << n) - 1);
        }
    }

    private static void allOfThese(Edge e) {
        e.says("Terms: WHOSE: PEOPLE that have all of these");
        int[] of = {25, 7, 5, 4, 3};
        int[] other = {24, 6, 4, 3, 2};
        for (int missed = -1; missed < 5; missed++) {
            int m = missed;
            Edge.Telling told = x -> {
                person(x, "zyxwvut", 5, 4, 3, 1);
                for (int part = 0; part < 5; part++) {
                    x.has(part, part == m ? other[part] : of[part]);
                }
            };
            e.looks("one has all but " + m, told, x -> x.whose(), m < 0 ? 1 : 0);
            e.looks("one has not " + m, x -> {
                told.to(x);
                x.has(Math.max(0, m), -1);
            }, x -> x.whose(), 1);
        }
    }

    private static void bitsOfTwelve(Edge e) {
        e.says("16: as bits (0 to 11)");
        for (int i = 0; i < 12; i++) {
            TongueTip x = new TongueTip();
            for (int k = 0; k < 12; k++) {
                person(x, "a", k == i ? 2 : 1, 0, 0, 1);
            }
            x.has(2, 2);
            e.due("the only one", x.whose(), 1 << i);
            x.has(2, 1);
            e.due("all but one", x.whose(), 4095 - (1 << i));
        }
    }

    private static void oddsOfWhom(Edge e) {
        e.says("17: ODDS of one: BAD (first)");
        for (int person : new int[] {-1, 12, 31, 32, 33, MIN, MAX}) {
            e.bad("odds of " + person, x -> x.odds(person));
        }
        e.refused("one behind the last", Edge::busy, x -> x.odds(2), -2, Edge.BAD);
        e.refused("the first of nobody", Edge::nobody, x -> x.odds(0), -2, Edge.BAD);
        e.refused("the first of nobody, one has a PART", x -> x.has(0, 1), x -> x.odds(0), -2, Edge.BAD);
        TongueTip x = Edge.hall(Edge::full);
        e.due("the twelfth", x.odds(11), 1);
    }

    private static void notOneOfWhose(Edge e) {
        e.says("17: NO: it is not one of WHOSE");
        e.refused("the other one", Edge::busy, x -> x.odds(1), -3, Edge.NO);
        Edge.Telling none = x -> {
            Edge.busy(x);
            x.has(2, 5);
        };
        e.refused("WHOSE is nobody", none, x -> x.odds(0), -3, Edge.NO);
        e.refused("BAD comes first", none, x -> x.odds(2), -2, Edge.BAD);
    }

    private static void oddsOfTheOnlyOne(Edge e) {
        e.says("17: ODDS: SEEN of it by SEEN of all of them, THE FRACTION (lowest terms): 1");
        int[] seen = {1, 9, 3, 6};
        TongueTip x = new TongueTip();
        for (int i = 0; i < 4; i++) {
            person(x, "a", 1 + i, 0, 0, seen[i]);
        }
        int[] below = {19, 19, 19, 19};
        for (int i = 0; i < 4; i++) {
            e.due("odds of " + i, x.odds(i), 1);
            e.fraction("odds of " + i, x, seen[i], below[i]);
        }
        x.has(2, 3);
        e.due("odds of the only one", x.odds(2), 1);
        e.fraction("the only one", x, 1, 1);
        x = new TongueTip();
        for (int i = 0; i < 12; i++) {
            person(x, "a", 1, 0, 0, 9);
        }
        e.due("odds of one of twelve", x.odds(0), 1);
        e.fraction("one of twelve", x, 1, 12);
    }

    private static void nextOfThoseLeft(Edge e) {
        e.says("Terms: NEXT: the fewest are left in the mean (of WHOSE alone)");
        Edge.Telling told = x -> {
            person(x, "a", 1, 0, 0, 1);
            person(x, "a", 1, 0, 1, 1);
            // these would make it BEATS, were they of WHOSE
            person(x, "bb", 2, 1, 0, 9);
            person(x, "bb", 3, 1, 0, 9);
            person(x, "bb", 4, 1, 0, 9);
        };
        e.looks("of all", told, x -> x.next(), 2);
        Edge.Telling some = x -> {
            told.to(x);
            x.has(3, 0);
        };
        e.looks("of two", some, x -> x.next(), 4);
    }

    private static void nextBySeen(Edge e) {
        e.says("Terms: NEXT: the sum of SEEN of all with the one's value, times SEEN of it, all together");
        // BEATS: 3 * 3 + 3 * 3 = 18; PLACE: 1 + 25 = 26; JOB: 16 + 2 * 2 = 20; the others 36
        Edge.Telling told = x -> {
            person(x, "a", 1, 0, 0, 1);
            person(x, "a", 1, 1, 1, 2);
            person(x, "a", 2, 1, 0, 3);
        };
        e.looks("18, 26, 20", told, x -> x.next(), 2);
        e.looks("26, 20", x -> {
            told.to(x);
            x.has(2, 1);
        }, x -> x.next(), 3);
        // PLACE: 3 * 3 + 3 * 3 = 18; JOB: 4 * 4 + 2 * 2 = 20
        Edge.Telling first = x -> {
            person(x, "a", 1, 0, 0, 3);
            person(x, "a", 1, 1, 0, 1);
            person(x, "a", 1, 1, 1, 2);
        };
        e.looks("the first one counts, and with its like alone", first, x -> x.next(), 3);
        // PLACE: 3 * 3 + 8 * 8 = 73; JOB: 5 * 5 + 6 * 6 = 61
        Edge.Telling times = x -> {
            person(x, "a", 1, 0, 0, 1);
            person(x, "a", 1, 0, 1, 1);
            person(x, "a", 1, 0, 1, 1);
            person(x, "a", 1, 1, 0, 4);
            person(x, "a", 1, 1, 1, 4);
        };
        e.looks("times SEEN of it, not by heads", times, x -> x.next(), 4);
        Edge.Telling heads = x -> {
            person(x, "a", 1, 0, 0, 4);
            person(x, "a", 1, 1, 1, 2);
            person(x, "a", 1, 1, 2, 1);
            person(x, "a", 1, 1, 3, 1);
        };
        e.looks("one by one: 16, 4, 1, 1", heads, x -> x.next(), 4);
    }

    private static void nextOfLikeOnes(Edge e) {
        e.says("Terms: NEXT: of like ones the least");
        Edge.Telling told = x -> {
            person(x, "a", 1, 0, 0, 1);
            person(x, "bb", 2, 1, 1, 1);
        };
        e.looks("of five", told, x -> x.next(), 0);
        for (int had = 1; had < 32; had++) {
            int parts = had;
            int least = Integer.numberOfTrailingZeros(~had);
            int[] of = {0, 1, 1, 0, 0};
            Edge.Telling some = x -> {
                told.to(x);
                for (int part = 0; part < 5; part++) {
                    x.has(part, (parts >> part & 1) == 1 ? of[part] : -1);
                }
            };
            e.looks("one has " + had, some, x -> x.next(), had == 31 ? -1 : least);
        }
    }

    private static void nextOfWhatOneHasNot(Edge e) {
        e.says("Terms: NEXT: of PARTS that one has not");
        Edge.Telling told = x -> {
            person(x, "a", 1, 0, 0, 1);
            person(x, "a", 1, 0, 1, 1);
            x.has(0, 0);
            x.has(1, 1);
        };
        e.looks("that which tells them apart", told, x -> x.next(), 4);
        e.looks("one has it", x -> {
            told.to(x);
            x.has(4, 1);
        }, x -> x.next(), 2);
        e.looks("the last one", x -> {
            told.to(x);
            x.has(4, 1);
            x.has(2, 1);
        }, x -> x.next(), 3);
    }

    private static void oneHasAll(Edge e) {
        e.says("18: NONE: one has all (no refusal)");
        Edge.Telling told = x -> {
            person(x, "a", 1, 0, 0, 1);
            x.has(0, 0);
            x.has(1, 1);
            x.has(2, 1);
            x.has(3, 0);
        };
        e.looks("one has not one", told, x -> x.next(), 4);
        e.looks("one has all", x -> {
            told.to(x);
            x.has(4, 0);
        }, x -> x.next(), -1);
    }

    private static void whoseIsNobody(Edge e) {
        e.says("18: NO: WHOSE is nobody (ahead of NONE)");
        e.refused("nobody at all", Edge::nobody, x -> x.next(), -3, Edge.NO);
        e.refused("none of two", x -> {
            Edge.busy(x);
            x.has(2, 5);
        }, x -> x.next(), -3, Edge.NO);
        e.refused("one has all", x -> {
            Edge.busy(x);
            for (int part = 0; part < 5; part++) {
                x.has(part, 5);
            }
        }, x -> x.next(), -3, Edge.NO);
        e.refused("one has all, nobody at all", x -> {
            for (int part = 0; part < 5; part++) {
                x.has(part, 5);
            }
        }, x -> x.next(), -3, Edge.NO);
    }

    private static void questionsAsTheyCome(Edge e) {
        e.says("19, Terms: QUESTIONS 0 .. 5, as they come: its number");
        TongueTip x = new TongueTip();
        for (int i = 0; i < 6; i++) {
            e.due("a QUESTION", x.question(i % 5, i), i);
            e.due("questions", x.count(2), i + 1);
        }
    }

    private static void numbersOfAQuestion(Edge e) {
        String[] called = {"a PART (0 .. 4)", "SHOW (0 .. 9)"};
        int[] most = {4, 9};
        for (int which = 0; which < 2; which++) {
            int w = which;
            e.says("19, Terms: " + called[w]);
            for (int v : new int[] {-1, most[w] + 1, MIN, MAX}) {
                e.bad("question with " + v, x -> x.question(w == 0 ? v : 2, w == 1 ? v : 3));
            }
            for (int v : new int[] {0, most[w]}) {
                TongueTip x = new TongueTip();
                int part = w == 0 ? v : 2, shows = w == 1 ? v : 3;
                e.due("question with " + v, x.question(part, shows), 0);
                e.due("kept: " + v, x.digest(), Edge.mixed(0, 0, 1, 0, 0, 0, part, shows,
                    0, 7, 0, 3, 6, 8, 9, 10, -1, -1, -1, -1, -1, 0, 1));
                e.due("nothing is refused", x.status(0) + x.status(1) + x.status(2), 0);
            }
        }
    }

    private static void fullOfQuestions(Edge e) {
        e.says("19: FULL: 6");
        Edge.Telling five = x -> {
            for (int i = 0; i < 5; i++) {
                x.question(1, 2);
            }
        };
        Edge.Telling six = x -> {
            five.to(x);
            x.question(1, 2);
        };
        e.taken("the sixth", five, x -> x.question(1, 2), 5, six);
        e.refused("the seventh", six, x -> x.question(1, 2), -4, Edge.FULL);
        e.refused("the seventh, at a full one", Edge::full, x -> x.question(1, 2), -4, Edge.FULL);
        e.refused("BAD comes first", six, x -> x.question(5, 2), -2, Edge.BAD);
        e.refused("BAD comes first", six, x -> x.question(1, 10), -2, Edge.BAD);
    }

    /** Two that BEATS and JOB tell apart, PLACE and the letters do not; then QUESTIONS by PART, SHOWS. */
    private static Edge.Telling two(int... questions) {
        return x -> {
            person(x, "a", 1, 0, 0, 1);
            person(x, "a", 2, 0, 1, 1);
            for (int i = 0; i < questions.length; i += 2) {
                x.question(questions[i], questions[i + 1]);
            }
        };
    }

    private static void askFewestFirst(Edge e) {
        e.says("Terms: ASK: the one by which the fewest are left in the mean");
        e.looks("whatever it shows", two(3, 0, 2, 9), x -> x.ask(), 1);
        e.looks("wherever it stands", two(2, 9, 3, 0), x -> x.ask(), 0);
        e.looks("the last of six", two(0, 0, 1, 0, 3, 0, 3, 1, 1, 1, 4, 9), x -> x.ask(), 5);
    }

    private static void askShowsLeast(Edge e) {
        e.says("Terms: ASK: of like ones that which SHOWS least");
        e.looks("0 against 1", two(2, 1, 4, 0), x -> x.ask(), 1);
        e.looks("8 against 9", two(4, 9, 2, 8), x -> x.ask(), 1);
        e.looks("1 against 0, that leaves more", two(4, 1, 3, 0), x -> x.ask(), 0);
        e.looks("of one PART", two(4, 9, 4, 5, 4, 7), x -> x.ask(), 1);
    }

    private static void askTheLeast(Edge e) {
        e.says("Terms: ASK: then the least");
        e.looks("all alike", two(2, 3, 2, 3, 2, 3), x -> x.ask(), 0);
        e.looks("of two PARTS", two(3, 0, 4, 3, 2, 3), x -> x.ask(), 1);
        e.looks("of two PARTS", two(3, 0, 4, 4, 2, 3, 4, 3), x -> x.ask(), 2);
    }

    private static void askOfWhatOneHasNot(Edge e) {
        e.says("Terms: ASK: of those that give a PART one has not");
        Edge.Telling told = two(4, 0, 3, 0, 2, 0);
        e.looks("nothing had", told, x -> x.ask(), 0);
        e.looks("one has the JOB", x -> {
            told.to(x);
            x.has(4, 1);
        }, x -> x.ask(), 1);
        e.looks("one has the JOB and the PLACE", x -> {
            told.to(x);
            x.has(4, 1);
            x.has(3, 0);
        }, x -> x.ask(), 2);
    }

    private static void askNone(Edge e) {
        e.says("20, Terms: ASK (none: none): NONE (no refusal)");
        e.looks("no QUESTION", two(), x -> x.ask(), -1);
        e.looks("one has what it gives", x -> {
            two(4, 0, 4, 9).to(x);
            x.has(4, 1);
        }, x -> x.ask(), -1);
        e.looks("one has all", x -> {
            two(0, 0, 1, 0, 2, 0, 3, 0, 4, 0).to(x);
            x.has(0, 0);
            x.has(1, 1);
            x.has(2, 2);
            x.has(3, 0);
            x.has(4, 1);
        }, x -> x.ask(), -1);
    }

    private static void askOfNobody(Edge e) {
        e.says("20: NO: WHOSE is nobody (ahead of NONE)");
        e.refused("nobody at all", Edge::nobody, x -> x.ask(), -3, Edge.NO);
        e.refused("nobody at all, a QUESTION", x -> x.question(0, 0), x -> x.ask(), -3, Edge.NO);
        e.refused("none of two", x -> {
            two(4, 0).to(x);
            x.has(2, 5);
        }, x -> x.ask(), -3, Edge.NO);
        e.refused("none of two, no QUESTION", x -> {
            two().to(x);
            x.has(2, 5);
        }, x -> x.ask(), -3, Edge.NO);
    }

    private static void indexOfNobody(Edge e) {
        e.says("21: INDEX of nobody, or of one: no PARTS");
        e.looks("nobody", Edge::nobody, x -> x.index(), 0);
        e.looks("one", x -> person(x, "a", 1, 0, 0, 1), x -> x.index(), 0);
        e.looks("one, that one has not", x -> {
            person(x, "a", 1, 0, 0, 1);
            x.has(2, 5);
        }, x -> x.index(), 0);
    }

    private static void indexFewest(Edge e) {
        e.says("Terms: INDEX: that with the fewest (ahead of the least bits)");
        e.looks("one PART of high bits", x -> {
            person(x, "a", 1, 0, 0, 1);
            person(x, "a", 2, 0, 1, 1);
            person(x, "b", 1, 0, 2, 1);
            person(x, "b", 2, 0, 3, 1);
        }, x -> x.index(), 16);
        e.looks("two PARTS of high bits", x -> {
            person(x, "a", 1, 0, 0, 1);
            person(x, "a", 1, 1, 1, 1);
            person(x, "aa", 1, 0, 1, 1);
            person(x, "b", 1, 1, 0, 1);
        }, x -> x.index(), 24);
        e.looks("all five", x -> {
            person(x, "a", 1, 0, 0, 1);
            person(x, "b", 1, 0, 0, 1);
            person(x, "aa", 1, 0, 0, 1);
            person(x, "a", 2, 0, 0, 1);
            person(x, "a", 1, 1, 0, 1);
            person(x, "a", 1, 0, 1, 1);
        }, x -> x.index(), 31);
    }

    private static void indexLeastBits(Edge e) {
        e.says("Terms: INDEX: of like ones the least bits");
        e.looks("of five alone", x -> {
            person(x, "a", 1, 0, 0, 1);
            person(x, "bb", 2, 1, 1, 1);
        }, x -> x.index(), 1);
        e.looks("of four alone", x -> {
            person(x, "a", 1, 0, 0, 1);
            person(x, "aa", 2, 1, 1, 1);
        }, x -> x.index(), 2);
        e.looks("of two alone", x -> {
            person(x, "a", 1, 0, 0, 1);
            person(x, "a", 1, 1, 1, 1);
        }, x -> x.index(), 8);
        // PLACE and JOB, or BEATS and JOB, or BEATS and PLACE
        e.looks("of pairs", x -> {
            person(x, "a", 1, 0, 0, 1);
            person(x, "a", 1, 1, 1, 1);
            person(x, "a", 2, 0, 1, 1);
            person(x, "a", 2, 1, 0, 1);
        }, x -> x.index(), 12);
    }

    private static void indexNone(Edge e) {
        e.says("21, Terms: INDEX (none: two have all alike): NONE (no refusal)");
        e.looks("two", x -> {
            person(x, "anna", 1, 0, 0, 1);
            person(x, "alma", 1, 0, 0, 9);
        }, x -> x.index(), -1);
        e.looks("the first and the twelfth", x -> {
            for (int i = 0; i < 11; i++) {
                person(x, "a", 1 + i / 5, i % 5, 0, 1);
            }
            person(x, "a", 1, 0, 0, 1);
        }, x -> x.index(), -1);
        e.looks("all of twelve unlike", x -> {
            for (int i = 0; i < 12; i++) {
                person(x, "a", 1 + i / 5, i % 5, 0, 1);
            }
        }, x -> x.index(), 12);
    }

    private static Edge.Telling named(String... names) {
        return x -> {
            for (String name : names) {
                person(x, name, 1, 0, 0, 1);
            }
        };
    }

    private static void asManyLetters(Edge e) {
        e.says("Terms: TAKEN FOR: NAMES have as many letters");
        e.looks("one letter more", named("anna", "annab"), x -> x.takenFor(7, -1), 0);
        e.looks("one letter ahead", named("anna", "banna"), x -> x.takenFor(7, -1), 0);
        e.looks("one and seven", named("a", "abcdefg"), x -> x.takenFor(7, -1), 0);
        e.looks("as many", named("anna", "otto"), x -> x.takenFor(7, -1), 1);
        e.looks("one letter each", named("a", "z"), x -> x.takenFor(7, -1), 1);
    }

    private static void atMost(Edge e) {
        e.says("Terms: TAKEN FOR: differ at d places of these at most");
        String whole = "aaaaaaa", other = "bcdefgh";
        for (int unlike = 0; unlike <= 7; unlike++) {
            String name = other.substring(0, unlike) + whole.substring(unlike);
            for (int d = 0; d <= 7; d++) {
                int most = d;
                e.looks("unlike at the first " + unlike + ", d " + d, named(whole, name), x -> x.takenFor(most, -1), unlike <= d ? 1 : 0);
            }
        }
        for (int place = 0; place < 7; place++) {
            String name = whole.substring(0, place) + "z" + whole.substring(place + 1);
            e.looks("unlike at place " + place + ", d 0", named(whole, name), x -> x.takenFor(0, -1), 0);
            e.looks("unlike at place " + place + ", d 1", named(whole, name), x -> x.takenFor(1, -1), 1);
        }
        e.looks("the same letters at other places", named("ab", "ba"), x -> x.takenFor(1, -1), 0);
        e.looks("the same letters at other places", named("ab", "ba"), x -> x.takenFor(2, -1), 1);
    }

    private static void boundsOfPlaces(Edge e) {
        e.says("22: d (0 .. 7): BAD: -10");
        for (int d : new int[] {-1, 8, MIN, MAX}) {
            e.bad("d " + d, x -> x.takenFor(d, -1), -10);
            e.bad("d " + d, x -> x.takenFor(d, 0), -10);
        }
        for (int i : new int[] {-2, -3, MIN}) {
            e.bad("i " + i, x -> x.takenFor(0, i), -10);
        }
        e.looks("d 0", named("a", "a"), x -> x.takenFor(0, -1), 1);
        e.looks("d 7", named("a", "a"), x -> x.takenFor(7, -1), 1);
    }

    private static void byNumbers(Edge e) {
        e.says("Terms: TAKEN FOR: the i-th (by numbers): 100 times the lesser and the other one");
        Edge.Telling twelve = named("a", "a", "a", "a", "a", "a", "a", "a", "a", "a", "a", "a");
        int i = 0;
        for (int one = 0; one < 12; one++) {
            for (int other = one + 1; other < 12; other++) {
                int which = i;
                e.looks("the pair " + i, twelve, x -> x.takenFor(0, which), 100 * one + other);
                i++;
            }
        }
        e.looks("how many", twelve, x -> x.takenFor(0, -1), 66);
        // alike at both places but one: 0 2, 0 4, 1 3, 2 4
        int[] pairs = {2, 4, 103, 204, -5};
        for (int k = 0; k < pairs.length; k++) {
            int which = k;
            e.looks("of five, the pair " + k, named("ab", "c", "ab", "d", "ax"), x -> x.takenFor(1, which), pairs[k]);
        }
    }

    private static void notSoMany(Edge e) {
        e.says("22: -5: not so many (no refusal)");
        e.looks("nobody", Edge::nobody, x -> x.takenFor(0, 0), -5);
        e.looks("nobody: how many", Edge::nobody, x -> x.takenFor(0, -1), 0);
        e.looks("one", named("a"), x -> x.takenFor(7, 0), -5);
        e.looks("the last of three", named("a", "a", "a"), x -> x.takenFor(0, 2), 102);
        e.looks("one behind the last", named("a", "a", "a"), x -> x.takenFor(0, 3), -5);
        e.looks("far behind", named("a", "a", "a"), x -> x.takenFor(0, MAX), -5);
        e.refused("BAD comes first", named("a"), x -> x.takenFor(8, 0), -10, Edge.BAD);
    }
}
