import java.math.BigInteger;
import java.util.ArrayDeque;
import java.util.ArrayList;
import java.util.Deque;
import java.util.List;
import java.util.regex.Matcher;
import java.util.regex.Pattern;

/**
 * The document once more, written as plainly as can be with the Java library, by other ways than
 * TongueTip's where there are any: all ROWS and all NIGHTS are gone through one by one.
 */
final class Model {
    static final class Person implements Cloneable {
        String name;
        int beats, place, job, strength, seen, last;

        Person copy() {
            Person p = new Person();
            p.name = name;
            p.beats = beats;
            p.place = place;
            p.job = job;
            p.strength = strength;
            p.seen = seen;
            p.last = last;
            return p;
        }

        int[] parts() {
            return new int[] {name.charAt(0) - 'a', name.length(), beats, place, job};
        }
    }

    static final class State {
        int day = 0;
        List<Person> people = new ArrayList<>();
        List<int[]> tries = new ArrayList<>();
        List<int[]> questions = new ArrayList<>();
        int here = 0, falls = 7, across = 0;
        int[] laws = {0, 3, 6, 8, 9, 10};
        Integer[] known = new Integer[5];

        State copy() {
            State s = new State();
            s.day = day;
            for (Person p : people) {
                s.people.add(p.copy());
            }
            s.tries.addAll(tries);
            s.questions.addAll(questions);
            s.here = here;
            s.falls = falls;
            s.across = across;
            s.laws = laws.clone();
            s.known = known.clone();
            return s;
        }
    }

    State s = new State();
    Deque<State> past = new ArrayDeque<>();
    State[] images = new State[2];
    StringBuilder text = new StringBuilder();
    BigInteger above = BigInteger.ZERO, below = BigInteger.ONE;
    int[] refused = new int[3];

    int bad() {
        refused[0]++;
        return -2;
    }

    int no() {
        refused[1]++;
        return -3;
    }

    int full() {
        refused[2]++;
        return -4;
    }

    static boolean out(long v, long low, long high) {
        return v < low || v > high;
    }

    boolean nobody(int person) {
        return out(person, 0, s.people.size() - 1);
    }

    void fraction(BigInteger a, BigInteger b) {
        BigInteger g = a.gcd(b);
        above = a.divide(g);
        below = b.divide(g);
    }

    static String letters(long name) {
        String all = "";
        while (name > 0) {
            long letter = name % 32;
            if (letter < 1 || letter > 26) {
                return "";
            }
            all = (char) ('a' + letter - 1) + all;
            name /= 32;
        }
        return all;
    }

    int one(long name, int beats, int place, int job, int strength, int seen) {
        int r = tellOne(s, letters(name), beats, place, job, strength, seen);
        return r == -2 ? bad() : r == -4 ? full() : r;
    }

    static int tellOne(State s, String name, int beats, int place, int job, int strength, int seen) {
        if (name.isEmpty() || name.length() > 7 || out(beats, 1, 5) || out(place, 0, 5) || out(job, 0, 5)
                || out(strength, 0, 20) || out(seen, 1, 9)) {
            return -2;
        }
        if (s.people.size() == 12) {
            return -4;
        }
        Person p = new Person();
        p.name = name;
        p.beats = beats;
        p.place = place;
        p.job = job;
        p.strength = strength;
        p.seen = seen;
        p.last = s.day;
        s.people.add(p);
        return s.people.size() - 1;
    }

    int put(int what, int v) {
        int was;
        if (what == 0 && !out(v, 0, 5)) {
            was = s.here;
            s.here = v;
        } else if (what == 1 && !out(v, 1, 99)) {
            was = s.falls;
            s.falls = v;
        } else if (what == 2 && !out(v, 0, 60)) {
            was = s.across;
            s.across = v;
        } else if (what >= 3 && what <= 7 && !out(v, 0, 20)) {
            was = s.laws[what - 2];
            s.laws[what - 2] = v;
        } else {
            return bad();
        }
        return was;
    }

    int addTry(int kind, int seconds, int ease) {
        int r = tellTry(s, kind, seconds, ease);
        return r == -2 ? bad() : r == -4 ? full() : r;
    }

    static int tellTry(State s, int kind, int seconds, int ease) {
        if (out(kind, 0, 5) || out(seconds, 1, 20) || out(ease, 1, 20)) {
            return -2;
        }
        if (s.tries.size() == 5) {
            return -4;
        }
        s.tries.add(new int[] {kind, seconds, ease});
        return s.tries.size() - 1;
    }

    static int heldOn(State s, Person p, int day) {
        int strength = p.strength;
        for (int d = p.last + s.falls; d <= day && strength > 0; d += s.falls) {
            strength--;
        }
        return strength;
    }

    int held(int person, int n) {
        return nobody(person) || out(n, 0, 999) ? bad() : heldOn(s, s.people.get(person), s.day + n);
    }

    void keepPast() {
        past.addLast(s.copy());
        if (past.size() > 4) {
            past.removeFirst();
        }
    }

    int think(int person) {
        if (nobody(person)) {
            return bad();
        }
        keepPast();
        Person p = s.people.get(person);
        p.strength = Math.min(20, heldOn(s, p, s.day) + 3);
        p.last = s.day;
        return p.strength;
    }

    int days(int n) {
        if (out(n, 1, 999)) {
            return bad();
        }
        if (s.day + n > 999) {
            return no();
        }
        keepPast();
        s.day += n;
        return s.day;
    }

    int undo() {
        if (past.isEmpty()) {
            return no();
        }
        s = past.removeLast();
        return 1;
    }

    int type(long v, int n) {
        if (out(n, 1, 8)) {
            return bad();
        }
        if (text.length() + n > 300) {
            return full();
        }
        for (int k = n - 1; k >= 0; k--) {
            text.append((char) (v >>> 8 * k & 255));
        }
        return text.length();
    }

    int clear() {
        int had = text.length();
        text.setLength(0);
        return had;
    }

    private static final String[] WORDS = {"one", "try", "ask", "here", "falls"};
    private static final String[] SHAPES = {"wnnnnn;", "nnn;", "nn;", "n;", "n;"};

    int read() {
        State draft = new State();
        Matcher m = Pattern.compile(" *(?:([a-z]+)|([0-9]+)|(;)|([^ ])|$)", Pattern.DOTALL).matcher(text);
        String shape = "";
        int item = -1, items = 0, refusedItem = -1;
        List<String> tokens = new ArrayList<>();
        int at = 0;
        while (true) {
            m.find(at);
            at = m.end();
            String word = m.group(1), number = m.group(2);
            boolean end = word == null && number == null && m.group(3) == null && m.group(4) == null;
            if (end) {
                if (shape.isEmpty()) {
                    break;
                }
                return -10 - text.length();
            }
            int start = at - (word != null ? word.length() : number != null ? number.length() : 1);
            boolean stands;
            if (shape.isEmpty()) {
                item = word == null ? -1 : List.of(WORDS).indexOf(word);
                stands = item >= 0;
                shape = stands ? SHAPES[item] : "";
                tokens.clear();
            } else {
                char due = shape.charAt(0);
                stands = due == 'w' ? word != null : due == 'n' ? number != null && number.length() <= 2 : m.group(3) != null;
                shape = shape.substring(1);
                tokens.add(word != null ? word : number);
            }
            if (!stands) {
                return -10 - start;
            }
            if (shape.isEmpty()) {
                if (!told(draft, item, tokens) && refusedItem < 0) {
                    refusedItem = items;
                }
                items++;
            }
        }
        if (refusedItem >= 0) {
            return -1000 - refusedItem;
        }
        s = draft;
        past.clear();
        return items;
    }

    private static boolean told(State s, int item, List<String> t) {
        int[] n = new int[6];
        for (int i = item == 0 ? 1 : 0; i < t.size() - 1; i++) {
            n[i] = Integer.parseInt(t.get(i));
        }
        switch (item) {
            case 0:
                return tellOne(s, t.get(0), n[1], n[2], n[3], n[4], n[5]) >= 0;
            case 1:
                return tellTry(s, n[0], n[1], n[2]) >= 0;
            case 2:
                return tellQuestion(s, n[0], n[1]) >= 0;
            case 3:
                s.here = n[0];
                return n[0] <= 5;
            default:
                s.falls = n[0];
                return n[0] >= 1;
        }
    }

    /** COMES of a ROW of tries, as a fraction: above, below, and the seconds it takes. */
    BigInteger[] comesOf(Person p, List<Integer> row) {
        BigInteger missed = BigInteger.ONE, whole = BigInteger.ONE, of = BigInteger.valueOf(400);
        int second = 0, help = 0;
        boolean lies = true;
        for (int number : row) {
            int[] t = s.tries.get(number);
            int kind = t[0], ease = Math.min(20, t[2] + help), held = heldOn(s, p, s.day);
            int chance = held * ease;
            lies &= kind != 3;
            chance = kind == 2 && p.place != s.here ? chance / 2 : chance;
            chance = kind == 3 ? chance / 2 : chance;
            chance = kind == 4 ? 10 * ease : chance;
            chance = kind == 5 ? 400 : chance;
            if (kind < 3 && lies && second < s.across) {
                chance = 0;
            }
            missed = missed.multiply(BigInteger.valueOf(400 - chance));
            whole = whole.multiply(of);
            help += kind == 1 ? 2 : kind == 2 ? 3 : 0;
            second += t[1];
        }
        return new BigInteger[] {whole.subtract(missed), whole, BigInteger.valueOf(second)};
    }

    int comes(int person, int row) {
        if (nobody(person) || row < 0) {
            return bad();
        }
        List<Integer> numbers = new ArrayList<>();
        for (char c : (row == 0 ? "" : "" + row).toCharArray()) {
            int number = c - '1';
            if (number < 0 || number >= s.tries.size() || numbers.contains(number)) {
                return bad();
            }
            numbers.add(number);
        }
        BigInteger[] c = comesOf(s.people.get(person), numbers);
        fraction(c[0], c[1]);
        return c[2].intValue();
    }

    private List<Integer> bestRow;
    private BigInteger[] bestComes;

    private static String digits(List<Integer> row) {
        String all = "";
        for (int number : row) {
            all += number + 1;
        }
        return all;
    }

    private void search(Person p, int t, boolean outright, List<Integer> row) {
        BigInteger[] c = comesOf(p, row);
        if (c[2].intValue() > t) {
            return;
        }
        int more = bestRow == null ? 1 : c[0].multiply(bestComes[1]).compareTo(bestComes[0].multiply(c[1]));
        boolean better = more > 0 || more == 0 && row.size() < bestRow.size()
            || more == 0 && row.size() == bestRow.size() && digits(row).compareTo(digits(bestRow)) < 0;
        if (better) {
            bestRow = new ArrayList<>(row);
            bestComes = c;
        }
        for (int number = s.tries.size() - 1; number >= 0; number--) {
            if (!row.contains(number) && (outright || s.tries.get(number)[0] != 5)) {
                row.add(number);
                search(p, t, outright, row);
                row.remove(row.size() - 1);
            }
        }
    }

    int best(int person, int t) {
        if (nobody(person) || out(t, 0, 60)) {
            return bad();
        }
        bestRow = null;
        search(s.people.get(person), t, true, new ArrayList<>());
        fraction(bestComes[0], bestComes[1]);
        return bestRow.isEmpty() ? 0 : Integer.parseInt(digits(bestRow));
    }

    int tell(int person, int t) {
        if (nobody(person) || out(t, 0, 60)) {
            return bad();
        }
        bestRow = null;
        Person p = s.people.get(person);
        search(p, t, false, new ArrayList<>());
        int shame = Math.min(20, (s.day - p.last) / 50);
        BigInteger left = bestComes[0].multiply(BigInteger.valueOf(20));
        return left.compareTo(bestComes[1].multiply(BigInteger.valueOf(20 - shame))) < 0 ? 1 : 0;
    }

    int has(int part, int v) {
        int[][] bounds = {{0, 25}, {1, 7}, {1, 5}, {0, 5}, {0, 5}};
        if (out(part, 0, 4) || v != -1 && out(v, bounds[part][0], bounds[part][1])) {
            bad();
            return -10;
        }
        int was = s.known[part] == null ? -1 : s.known[part];
        s.known[part] = v == -1 ? null : v;
        return was;
    }

    List<Integer> left() {
        List<Integer> left = new ArrayList<>();
        for (int i = 0; i < s.people.size(); i++) {
            boolean all = true;
            for (int part = 0; part < 5; part++) {
                all &= s.known[part] == null || s.known[part] == s.people.get(i).parts()[part];
            }
            if (all) {
                left.add(i);
            }
        }
        return left;
    }

    int whose() {
        int bits = 0;
        for (int i : left()) {
            bits += 1 << i;
        }
        return bits;
    }

    int odds(int person) {
        if (nobody(person)) {
            return bad();
        }
        if (!left().contains(person)) {
            return no();
        }
        int sum = 0;
        for (int i : left()) {
            sum += s.people.get(i).seen;
        }
        fraction(BigInteger.valueOf(s.people.get(person).seen), BigInteger.valueOf(sum));
        return 1;
    }

    int mean(int part) {
        int[] seenByValue = new int[26];
        for (int i : left()) {
            seenByValue[s.people.get(i).parts()[part]] += s.people.get(i).seen;
        }
        int sum = 0;
        for (int seen : seenByValue) {
            sum += seen * seen;
        }
        return sum;
    }

    int next() {
        if (left().isEmpty()) {
            return no();
        }
        int best = -1;
        for (int part = 4; part >= 0; part--) {
            if (s.known[part] == null && (best < 0 || mean(part) <= mean(best))) {
                best = part;
            }
        }
        return best;
    }

    int question(int part, int shows) {
        int r = tellQuestion(s, part, shows);
        return r == -2 ? bad() : r == -4 ? full() : r;
    }

    static int tellQuestion(State s, int part, int shows) {
        if (out(part, 0, 4) || out(shows, 0, 9)) {
            return -2;
        }
        if (s.questions.size() == 6) {
            return -4;
        }
        s.questions.add(new int[] {part, shows});
        return s.questions.size() - 1;
    }

    int ask() {
        if (left().isEmpty()) {
            return no();
        }
        int best = -1;
        long least = Long.MAX_VALUE;
        for (int i = 0; i < s.questions.size(); i++) {
            int[] q = s.questions.get(i);
            long cost = (mean(q[0]) * 10L + q[1]) * 10 + i;
            if (s.known[q[0]] == null && cost < least) {
                best = i;
                least = cost;
            }
        }
        return best;
    }

    int index() {
        for (int size = 0; size <= 5; size++) {
            for (int bits = 0; bits < 32; bits++) {
                if (Integer.bitCount(bits) == size && apart(bits)) {
                    return bits;
                }
            }
        }
        return -1;
    }

    boolean apart(int bits) {
        List<String> seen = new ArrayList<>();
        for (Person p : s.people) {
            String told = "";
            for (int part = 0; part < 5; part++) {
                told += (bits >> part & 1) == 1 ? p.parts()[part] + "," : "";
            }
            if (seen.contains(told)) {
                return false;
            }
            seen.add(told);
        }
        return true;
    }

    int takenFor(int d, int i) {
        if (out(d, 0, 7) || i < -1) {
            bad();
            return -10;
        }
        List<Integer> pairs = new ArrayList<>();
        for (int a = 0; a < s.people.size(); a++) {
            for (int b = a + 1; b < s.people.size(); b++) {
                String x = s.people.get(a).name, y = s.people.get(b).name;
                int unlike = 0;
                for (int k = 0; k < x.length() && x.length() == y.length(); k++) {
                    unlike += x.charAt(k) == y.charAt(k) ? 0 : 1;
                }
                if (x.length() == y.length() && unlike <= d) {
                    pairs.add(100 * a + b);
                }
            }
        }
        return i == -1 ? pairs.size() : i < pairs.size() ? pairs.get(i) : -5;
    }

    private int mostLeft;
    private int[] mostTimes;

    // All nights in the order of their times: the first of the best ones is the one that is due.
    private void nights(List<Integer> people, int k, int minutes, int left, int[] times) {
        if (k == people.size()) {
            if (left > mostLeft) {
                mostLeft = left;
                mostTimes = times.clone();
            }
            return;
        }
        Person p = s.people.get(people.get(k));
        for (int r = 0; r <= 5 && r * p.name.length() <= minutes; r++) {
            times[people.get(k)] = r;
            int one = heldOn(s, p, s.day) + s.laws[r] + (r > 0 && p.job == p.place ? 2 : 0);
            nights(people, k + 1, minutes - r * p.name.length(), left + Math.min(20, one), times);
        }
    }

    int learn(int people, int minutes, int person) {
        List<Integer> of = new ArrayList<>();
        for (int i = 0; i < 32; i++) {
            if ((people >>> i & 1) == 1) {
                of.add(i);
            }
        }
        boolean none = !of.isEmpty() && of.get(of.size() - 1) >= s.people.size();
        if (none || out(minutes, 0, 99) || person != -1 && !of.contains(person)) {
            bad();
            return -10;
        }
        mostLeft = -1;
        nights(of, 0, minutes, 0, new int[12]);
        return person == -1 ? mostLeft : mostTimes[person];
    }

    int rests(int a, int b) {
        if (out(a, 0, 20) || out(b, 0, 20)) {
            return bad();
        }
        // [his choice][hers], 0 says, 1 waits
        int[][] his = {{4 * b, 4 * b}, {0, 10 * (20 - b)}};
        int[][] hers = {{4 * a, 0}, {4 * a, 10 * (20 - a)}};
        int bits = 0;
        for (int h = 0; h < 2; h++) {
            for (int w = 0; w < 2; w++) {
                if (his[h][w] <= his[1 - h][w] && hers[h][w] <= hers[h][1 - w]) {
                    bits |= h == 0 ? w == 0 ? 1 : 2 : w == 0 ? 4 : 8;
                }
            }
        }
        return bits;
    }

    long part(int what) {
        return what == 0 ? above.longValueExact() : what == 1 ? below.longValueExact() : bad();
    }

    int image(int i) {
        if (out(i, 0, 1)) {
            return bad();
        }
        images[i] = s.copy();
        return 1;
    }

    int from(int i) {
        if (out(i, 0, 1)) {
            return bad();
        }
        if (images[i] == null) {
            return no();
        }
        s = images[i].copy();
        past.clear();
        return 1;
    }

    int status(int what) {
        if (out(what, 0, 2)) {
            bad();
            return -1;
        }
        return refused[what];
    }

    int count(int what) {
        return out(what, 0, 5) ? bad() : counts()[what];
    }

    int[] counts() {
        return new int[] {s.people.size(), s.tries.size(), s.questions.size(), text.length(), past.size(), s.day};
    }

    long digest() {
        List<Long> v = new ArrayList<>();
        for (int c : counts()) {
            v.add((long) c);
        }
        for (Person p : s.people) {
            v.add(Due.name(p.name));
            for (int n : new int[] {p.beats, p.place, p.job, p.strength, p.seen, p.last}) {
                v.add((long) n);
            }
        }
        for (int[] t : s.tries) {
            v.addAll(List.of((long) t[0], (long) t[1], (long) t[2]));
        }
        for (int[] q : s.questions) {
            v.addAll(List.of((long) q[0], (long) q[1]));
        }
        v.addAll(List.of((long) s.here, (long) s.falls, (long) s.across));
        for (int r = 1; r <= 5; r++) {
            v.add((long) s.laws[r]);
        }
        for (Integer had : s.known) {
            v.add(had == null ? -1L : had);
        }
        v.add(above.longValueExact());
        v.add(below.longValueExact());
        long h = 701;
        for (long n : v) {
            h = 31 * h + n;
        }
        return h;
    }
}
