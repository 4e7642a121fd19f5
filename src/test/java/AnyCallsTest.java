import java.util.Random;

/** No call throws, whatever its arguments, and the same calls always have the same answers. */
public final class AnyCallsTest {
    private static final int RUNS = 400, CALLS = 512;
    private static final int[] EDGES = {Integer.MIN_VALUE, Integer.MIN_VALUE + 1, -1000, -33, -32, -3, -2, -1, 0, 1, 2, 3, 4, 5,
        6, 7, 8, 11, 12, 13, 31, 32, 33, 54321, 4095, 4096, 98, 99, 999, 1000, 1 << 30, Integer.MAX_VALUE - 1, Integer.MAX_VALUE};

    public static void main(String[] args) {
        Due d = new Due("AnyCallsTest");
        for (int run = 0; run < RUNS; run++) {
            d.due("answers of run " + run, answers(run), answers(run));
        }
        d.end();
    }

    private static int any(Random random) {
        switch (random.nextInt(4)) {
            case 0:
                return EDGES[random.nextInt(EDGES.length)];
            case 1:
                return random.nextInt();
            default:
                return random.nextInt(14) - 1;
        }
    }

    private static long anyLong(Random random) {
        switch (random.nextInt(4)) {
            case 0:
                return random.nextLong();
            case 1:
                return any(random);
            case 2:
                return 1L << random.nextInt(64);
            default:
                return Due.name("anna") + 32 * random.nextInt(26);
        }
    }

    private static long answers(int run) {
        Random random = new Random(run);
        TongueTip x = new TongueTip();
        long mix = 0;
        for (int i = 0; i < CALLS; i++) {
            mix = 31 * mix + answer(x, random);
        }
        return mix;
    }

    private static long answer(TongueTip x, Random random) {
        int a = any(random), b = any(random), c = any(random), e = any(random), f = any(random);
        long v = anyLong(random);
        switch (random.nextInt(30)) {
            case 0: return x.one(v, a, b, c, e, f);
            case 1: return x.one(Due.name("bea"), 1 + (a & 3), b & 3, c & 3, e & 15, 1 + (f & 7));
            case 2: return x.put(a, b);
            case 3: return x.addTry(a, b, c);
            case 4: return x.held(a, b);
            case 5: return x.think(a);
            case 6: return x.days(a);
            case 7: return x.undo();
            case 8: return x.type(v, a);
            case 9: return random.nextInt(9) == 0 ? x.clear() : 0;
            case 10: return x.read();
            case 11: return x.comes(a, b);
            case 12: return x.best(a, b);
            case 13: return x.tell(a, b);
            case 14: return x.has(a, b);
            case 15: return x.whose();
            case 16: return x.odds(a);
            case 17: return x.next();
            case 18: return x.question(a, b);
            case 19: return x.ask();
            case 20: return x.index();
            case 21: return x.takenFor(a, b);
            case 22: return x.learn(a, b, c);
            case 23: return x.rests(a, b);
            case 24: return x.part(a);
            case 25: return x.image(a);
            case 26: return x.from(a);
            case 27: return x.status(a);
            case 28: return x.count(a);
            default: return x.digest();
        }
    }
}
