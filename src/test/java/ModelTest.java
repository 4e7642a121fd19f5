import java.util.Random;

/** Long runs of calls on TongueTip and on the Model, which must answer alike. The seeds are fixed. */
public final class ModelTest {
    private static final int RUNS = 1500, CALLS = 512;
    private static final int[] ODD = {-1, -2, 0, 1, 5, 6, 7, 12, 20, 21, 32, 60, 61, 99, 100, 999, 1000,
        Integer.MAX_VALUE, Integer.MIN_VALUE};

    private final Random random;
    private final TongueTip x = new TongueTip();
    private final Model m = new Model();
    private final Due d;
    private final int oddOf;
    private String call;

    private ModelTest(Due d, long seed) {
        this.d = d;
        random = new Random(seed);
        // Some runs have hardly a wrong number, so that they go far; some have many.
        oddOf = new int[] {8, 40, 400}[(int) (seed % 3)];
    }

    public static void main(String[] args) {
        Due d = new Due("ModelTest");
        for (int run = 0; run < RUNS; run++) {
            ModelTest t = new ModelTest(d, run);
            for (int i = 0; i < CALLS; i++) {
                t.step(run);
            }
        }
        d.end();
    }

    private int num(int low, int high) {
        if (random.nextInt(oddOf) == 0) {
            return ODD[random.nextInt(ODD.length)];
        }
        return low + random.nextInt(high - low + 1);
    }

    private int person() {
        return num(0, Math.max(0, m.s.people.size() - 1));
    }

    private long name() {
        if (random.nextInt(oddOf) == 0) {
            return random.nextBoolean() ? random.nextLong() : random.nextInt(40);
        }
        StringBuilder letters = new StringBuilder();
        int n = 1 + random.nextInt(random.nextBoolean() ? 7 : 3);
        for (int i = 0; i < n; i++) {
            letters.append((char) ('a' + random.nextInt(random.nextInt(4) == 0 ? 26 : 3)));
        }
        return Due.name(letters.toString());
    }

    private int row() {
        int row = 0;
        int n = random.nextInt(6);
        for (int i = 0; i < n; i++) {
            int digit = 1 + random.nextInt(5);
            if (("" + row).indexOf('0' + digit) < 0 || random.nextInt(oddOf) == 0) {
                row = row * 10 + digit;
            }
        }
        return random.nextInt(oddOf) == 0 ? num(-5, 99999) : row;
    }

    private void due(String told, long got, long want) {
        call = told;
        d.due(call, got, want);
    }

    private void step(int run) {
        String at = "run " + run + " ";
        switch (random.nextInt(34)) {
            case 0: case 1: case 2: {
                long name = name();
                int b = num(1, 3), p = num(0, 2), j = num(0, 2), st = num(0, 20), se = num(1, 9);
                due(at + "one", x.one(name, b, p, j, st, se), m.one(name, b, p, j, st, se));
                break;
            }
            case 3: case 4: case 5: {
                int what = num(0, 7);
                int v = num(0, what == 1 ? 99 : what == 2 ? 60 : what == 0 ? 3 : 20);
                due(at + "put " + what + " " + v, x.put(what, v), m.put(what, v));
                break;
            }
            case 6: case 7: {
                int k = num(0, 5), s = num(1, 20), e = num(1, 20);
                due(at + "addTry", x.addTry(k, s, e), m.addTry(k, s, e));
                break;
            }
            case 8: {
                int p = person(), n = num(0, 100);
                due(at + "held", x.held(p, n), m.held(p, n));
                break;
            }
            case 9: case 10: {
                int p = person();
                due(at + "think", x.think(p), m.think(p));
                break;
            }
            case 11: {
                int n = num(1, random.nextInt(4) == 0 ? 300 : 30);
                due(at + "days " + n, x.days(n), m.days(n));
                break;
            }
            case 12:
                due(at + "undo", x.undo(), m.undo());
                break;
            case 13: case 14:
                typeSomething(at);
                break;
            case 15:
                due(at + "type", x.type(7, 9), m.type(7, 9));
                break;
            case 16: case 17: case 18: {
                int p = person(), row = row();
                due(at + "comes " + p + " " + row, x.comes(p, row), m.comes(p, row));
                break;
            }
            case 19: {
                int p = person(), t = num(0, 60);
                due(at + "best " + p + " " + t, x.best(p, t), m.best(p, t));
                break;
            }
            case 20: {
                int p = person(), t = num(0, 60);
                due(at + "tell " + p + " " + t, x.tell(p, t), m.tell(p, t));
                break;
            }
            case 21: case 22: {
                int part = num(0, 4);
                int v = random.nextInt(3) == 0 ? -1 : num(part == 1 || part == 2 ? 1 : 0, part == 1 ? 5 : 2);
                due(at + "has", x.has(part, v), m.has(part, v));
                break;
            }
            case 23:
                due(at + "whose", x.whose(), m.whose());
                break;
            case 24: {
                int p = person();
                due(at + "odds", x.odds(p), m.odds(p));
                break;
            }
            case 25:
                due(at + "next", x.next(), m.next());
                break;
            case 26: {
                int part = num(0, 4), shows = num(0, 9);
                due(at + "question", x.question(part, shows), m.question(part, shows));
                break;
            }
            case 27:
                due(at + "ask", x.ask(), m.ask());
                break;
            case 28:
                due(at + "index", x.index(), m.index());
                break;
            case 29: {
                int n = num(0, 7), i = num(-1, 10);
                due(at + "takenFor", x.takenFor(n, i), m.takenFor(n, i));
                break;
            }
            case 30:
                learnSomething(at);
                break;
            case 31: {
                int a = num(0, 20), b = num(0, 20);
                due(at + "rests", x.rests(a, b), m.rests(a, b));
                break;
            }
            case 32: {
                int i = num(0, 1);
                if (random.nextBoolean()) {
                    due(at + "image", x.image(i), m.image(i));
                } else if (random.nextInt(4) == 0) {
                    due(at + "from", x.from(i), m.from(i));
                }
                break;
            }
            default: {
                int what = num(0, 2);
                due(at + "status", x.status(what), m.status(what));
                int w = num(0, 5);
                due(at + "count", x.count(w), m.count(w));
                int p = num(0, 1);
                due(at + "part", x.part(p), m.part(p));
                break;
            }
        }
        d.due("digest behind " + at + call, x.digest(), m.digest());
    }

    private void learnSomething(String at) {
        int people = random.nextInt(oddOf) == 0 ? num(0, 5000) : 0;
        for (int i = 0; i < 4 && people == 0; i++) {
            people |= 1 << random.nextInt(Math.max(1, m.s.people.size()));
        }
        // All nights of more would take too long to go through.
        if (Integer.bitCount(people) <= 4 || people >= 1 << m.s.people.size() || people < 0) {
            int minutes = num(0, random.nextBoolean() ? 99 : 30);
            int person = random.nextBoolean() ? -1 : person();
            due(at + "learn", x.learn(people, minutes, person), m.learn(people, minutes, person));
        }
    }

    private void typeSomething(String at) {
        if (random.nextInt(3) == 0) {
            due(at + "clear", x.clear(), m.clear());
        }
        String text = Texts.some(random, oddOf);
        for (int i = 0; i < text.length(); i += 8) {
            long v = random.nextLong();
            int n = Math.min(8, text.length() - i);
            for (int k = 0; k < n; k++) {
                v = v << 8 | text.charAt(i + k);
            }
            due(at + "type " + text, x.type(v, n), m.type(v, n));
        }
        if (random.nextInt(6) == 0) {
            due(at + "read " + m.text, x.read(), m.read());
        }
    }
}
