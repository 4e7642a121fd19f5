import java.math.BigInteger;

/** Counts the answers of one test that are not as due, and says which. */
final class Due {
    private final String test;
    private int asked = 0;
    private int wrong = 0;

    Due(String test) {
        this.test = test;
    }

    void due(String call, long got, long want) {
        asked++;
        if (got != want) {
            wrong++;
            System.out.println(test + ": " + call + " answered " + got + ", due is " + want);
        }
    }

    /** THE FRACTION of x is above by below, which are brought to lowest terms here. */
    void fraction(String behind, TongueTip x, long above, long below) {
        long common = BigInteger.valueOf(above).gcd(BigInteger.valueOf(below)).longValue();
        due("part(0) behind " + behind, x.part(0), above / common);
        due("part(1) behind " + behind, x.part(1), below / common);
    }

    /** Ends the program: with 1, if one answer was not as due, or if nothing was asked. */
    void end() {
        System.out.println(test + ": " + asked + " answers, " + wrong + " not as due");
        if (wrong != 0 || asked == 0) {
            System.exit(1);
        }
    }

    /** A NAME as one() takes it; longer or odd texts make numbers that are no NAMES. */
    static long name(String letters) {
        long value = 0;
        for (char c : letters.toCharArray()) {
            value = 32 * value + (c - 'a' + 1);
        }
        return value;
    }

    /** Empties THE TEXT and types another, eight bytes at a time. */
    static void text(TongueTip x, String text) {
        x.clear();
        for (int i = 0; i < text.length(); i += 8) {
            long v = 0;
            int n = Math.min(8, text.length() - i);
            for (int k = 0; k < n; k++) {
                v = v << 8 | text.charAt(i + k) & 255;
            }
            x.type(v, n);
        }
    }

    /** Types a text and reads it. */
    static int read(TongueTip x, String text) {
        text(x, text);
        return x.read();
    }
}
