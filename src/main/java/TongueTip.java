/**
 * A name that will not come: who there is, how well each name is held, which tries bring it back,
 * whose it is by what one has, what a night of learning leaves, and a hall told by a text.
 *
 * <p>Everything that a call needs is made by the constructor: no call makes an object. Where an
 * index or a divisor could be wrong it is looked at first, so that no call can ever throw.
 */
public final class TongueTip {
    public static final int NONE = -1, BAD = -2, NO = -3, FULL = -4;

    // What has(), takenFor() and learn() answer for BAD.
    private static final int BAD_TEN = -10;
    private static final int NOT_SO_MANY = -5;
    private static final int LAST_DAY = 999;
    private static final int MOST_SECONDS = 60;
    private static final int MOST_MINUTES = 99;
    private static final int MOST_STRENGTH = 20;
    private static final int THOUGHT_GIVES = 3;
    private static final int IMAGES = 2;

    private final Hall now;
    private final Past past;
    private final Hall[] images;
    private final Text text;
    private final Reader reader;
    private final Rows rows;
    private final Night night;
    private int keptImages;
    private long above;
    private long below;
    private int bads;
    private int noes;
    private int fulls;

    public TongueTip() {
        now = new Hall();
        past = new Past();
        images = new Hall[IMAGES];
        for (int i = 0; i < images.length; i++) {
            images[i] = new Hall();
        }
        text = new Text();
        reader = new Reader(text);
        rows = new Rows();
        night = new Night();
        above = 0;
        below = 1;
    }

    // ---- a hall

    public int one(long name, int beats, int place, int job, int strength, int seen) {
        return counted(now.tellOne(name, beats, place, job, strength, seen));
    }

    public int put(int what, int v) {
        return counted(now.tellSetting(what, v));
    }

    public int addTry(int kind, int seconds, int ease) {
        return counted(now.tellTry(kind, seconds, ease));
    }

    public int held(int person, int n) {
        if (!now.people.holds(person) || !within(n, 0, LAST_DAY)) {
            return counted(BAD);
        }
        return now.strengthLeft(person, n);
    }

    public int think(int person) {
        if (!now.people.holds(person)) {
            return counted(BAD);
        }
        past.keep(now);
        return now.thinkOf(person);
    }

    public int days(int n) {
        if (!within(n, 1, LAST_DAY)) {
            return counted(BAD);
        }
        if (now.day + n > LAST_DAY) {
            return counted(NO);
        }
        past.keep(now);
        now.day += n;
        return now.day;
    }

    public int undo() {
        return past.giveBack(now) ? 1 : counted(NO);
    }

    public int type(long v, int n) {
        return counted(text.add(v, n));
    }

    public int clear() {
        return text.empty();
    }

    public int read() {
        int answer = reader.readInto(now);
        if (answer >= 0) {
            past.forget();
        }
        return answer;
    }

    // ---- tries

    public int comes(int person, int row) {
        if (!now.people.holds(person) || !rows.go(now, person, row)) {
            return counted(BAD);
        }
        setFraction(rows.brings(), Rows.WHOLE);
        return rows.seconds();
    }

    public int best(int person, int t) {
        if (!now.people.holds(person) || !within(t, 0, MOST_SECONDS)) {
            return counted(BAD);
        }
        int row = rows.bestOf(now, person, t, true);
        rows.go(now, person, row);
        setFraction(rows.brings(), Rows.WHOLE);
        return row;
    }

    public int tell(int person, int t) {
        if (!now.people.holds(person) || !within(t, 0, MOST_SECONDS)) {
            return counted(BAD);
        }
        rows.go(now, person, rows.bestOf(now, person, t, false));
        return rows.brings() * 20 < (20 - now.shame(person)) * Rows.WHOLE ? 1 : 0;
    }

    // ---- whose, what to ask

    public int has(int part, int v) {
        if (!Hall.isPart(part) || v != NONE && !Hall.isPartValue(part, v)) {
            return countedBadTen();
        }
        int was = now.hasOf(part);
        now.known.set(0, part, v);
        return was;
    }

    public int whose() {
        return Parts.whoseBits(now);
    }

    public int odds(int person) {
        if (!now.people.holds(person)) {
            return counted(BAD);
        }
        int left = Parts.whoseBits(now);
        if (!isIn(left, person)) {
            return counted(NO);
        }
        setFraction(now.people.number(person, Hall.SEEN), Parts.seenOf(now, left));
        return 1;
    }

    public int next() {
        int left = Parts.whoseBits(now);
        return left == 0 ? counted(NO) : Parts.nextPart(now, left);
    }

    public int question(int part, int shows) {
        return counted(now.tellQuestion(part, shows));
    }

    public int ask() {
        int left = Parts.whoseBits(now);
        return left == 0 ? counted(NO) : Parts.bestQuestion(now, left);
    }

    public int index() {
        return Parts.fewestApart(now);
    }

    public int takenFor(int d, int i) {
        if (!within(d, 0, Names.MOST_LETTERS) || i < NONE) {
            return countedBadTen();
        }
        return Parts.takenPair(now, d, i);
    }

    // ---- a night, both

    public int learn(int people, int minutes, int person) {
        boolean wrongPeople = people < 0 || people >= 1 << now.people.size();
        boolean wrongPerson = person != NONE && !(now.people.holds(person) && isIn(people, person));
        if (wrongPeople || wrongPerson || !within(minutes, 0, MOST_MINUTES)) {
            return countedBadTen();
        }
        night.plan(now, people, minutes);
        return person == NONE ? night.mostLeft(minutes) : night.timesOf(now, minutes, person);
    }

    public int rests(int a, int b) {
        if (!within(a, 0, 20) || !within(b, 0, 20)) {
            return counted(BAD);
        }
        return Both.restBits(a, b);
    }

    // ---- what there is

    public long part(int what) {
        if (!within(what, 0, 1)) {
            return counted(BAD);
        }
        return what == 0 ? above : below;
    }

    public int image(int i) {
        Hall image = imageAt(i);
        if (image == null) {
            return counted(BAD);
        }
        image.become(now);
        keptImages |= 1 << i;
        return 1;
    }

    public int from(int i) {
        Hall image = imageAt(i);
        if (image == null) {
            return counted(BAD);
        }
        if (!isIn(keptImages, i)) {
            return counted(NO);
        }
        now.become(image);
        past.forget();
        return 1;
    }

    public int status(int what) {
        switch (what) {
            case 0:
                return bads;
            case 1:
                return noes;
            case 2:
                return fulls;
            default:
                counted(BAD);
                return NONE;
        }
    }

    public int count(int what) {
        return within(what, 0, 5) ? tally(what) : counted(BAD);
    }

    public long digest() {
        long h = 701;
        for (int what = 0; what <= 5; what++) {
            h = 31 * h + tally(what);
        }
        h = now.mixedInto(h);
        h = 31 * h + above;
        return 31 * h + below;
    }

    // ---- what several calls use

    private int counted(int answer) {
        if (answer == BAD) {
            bads++;
        } else if (answer == NO) {
            noes++;
        } else if (answer == FULL) {
            fulls++;
        }
        return answer;
    }

    private int countedBadTen() {
        counted(BAD);
        return BAD_TEN;
    }

    private int tally(int what) {
        switch (what) {
            case 0:
                return now.people.size();
            case 1:
                return now.tries.size();
            case 2:
                return now.questions.size();
            case 3:
                return text.size();
            case 4:
                return past.size();
            default:
                return now.day;
        }
    }

    private Hall imageAt(int i) {
        return i >= 0 && i < images.length ? images[i] : null;
    }

    private void setFraction(long over, long under) {
        long common = commonDivisor(over, under);
        if (common > 0) {
            above = over / common;
            below = under / common;
        }
    }

    private static long commonDivisor(long a, long b) {
        // Euclid's rests at least halve in two steps: 200 are more than any two longs need.
        for (int i = 0; i < 200 && b != 0; i++) {
            long rest = a % b;
            a = b;
            b = rest;
        }
        return a;
    }

    private static boolean within(int v, int low, int high) {
        return v >= low && v <= high;
    }

    private static boolean isIn(int bits, int i) {
        return i >= 0 && i < 32 && (bits >>> i & 1) == 1;
    }

    private static int at(int[] row, int i) {
        return row != null && i >= 0 && i < row.length ? row[i] : 0;
    }

    private static void set(int[] row, int i, int v) {
        if (row != null && i >= 0 && i < row.length) {
            row[i] = v;
        }
    }

    /** A NAME as a number: five bits a letter, 1 to 26, the first one highest. */
    private static final class Names {
        static final int MOST_LETTERS = 7;

        static boolean isName(long name) {
            int letters = lettersOf(name);
            boolean fits = name > 0 && name < 1L << 5 * MOST_LETTERS;
            for (int k = 0; k < letters; k++) {
                fits = fits && within(letterFromEnd(name, k), 1, 26);
            }
            return fits;
        }

        static int lettersOf(long name) {
            int letters = 0;
            for (int k = 0; k < MOST_LETTERS; k++) {
                if (name >> 5 * k > 0) {
                    letters = k + 1;
                }
            }
            return letters;
        }

        static int letterFromEnd(long name, int k) {
            return (int) (name >> 5 * k & 31);
        }

        static int firstLetter(long name) {
            return letterFromEnd(name, Math.max(0, lettersOf(name) - 1)) - 1;
        }

        static int unlikePlaces(long name, long other) {
            int unlike = 0;
            for (int k = 0; k < MOST_LETTERS; k++) {
                if (letterFromEnd(name, k) != letterFromEnd(other, k)) {
                    unlike++;
                }
            }
            return unlike;
        }
    }

    /** Rows of numbers, as they come; a place outside of its cells reads as 0 and takes nothing. */
    private static final class Table {
        private final int width;
        private final int most;
        private final long[] cells;
        private int rows;

        Table(int most, int width) {
            this.most = most;
            this.width = width;
            cells = new long[Math.max(0, most * width)];
        }

        int size() {
            return rows;
        }

        boolean isFull() {
            return rows >= most;
        }

        boolean holds(int row) {
            return row >= 0 && row < rows;
        }

        int addRow() {
            if (isFull()) {
                return FULL;
            }
            rows++;
            return rows - 1;
        }

        void forgetAll() {
            rows = 0;
        }

        // Written out once more in number() and set(), so that no call goes deeper for it.
        long get(int row, int column) {
            int place = row * width + column;
            return place >= 0 && place < cells.length ? cells[place] : 0;
        }

        int number(int row, int column) {
            int place = row * width + column;
            return place >= 0 && place < cells.length ? (int) cells[place] : 0;
        }

        void set(int row, int column, long v) {
            int place = row * width + column;
            if (place >= 0 && place < cells.length) {
                cells[place] = v;
            }
        }

        void become(Table other) {
            rows = other.rows;
            for (int i = 0; i < cells.length && i < other.cells.length; i++) {
                cells[i] = other.cells[i];
            }
        }

        long mixedInto(long h) {
            for (int i = 0; i < rows * width && i < cells.length; i++) {
                h = 31 * h + cells[i];
            }
            return h;
        }
    }

    /** All that may be undone or kept in an IMAGE; columns stand in the order of digest(). */
    private static final class Hall {
        static final int NAME = 0, BEATS = 1, PLACE = 2, JOB = 3, STRENGTH = 4, SEEN = 5, LAST = 6;
        static final int KIND = 0, SECONDS = 1, EASE = 2;
        static final int PART = 0, SHOWS = 1;
        static final int HERE = 0, FALLS = 1, ACROSS = 2;
        static final int PEOPLE = 12, PARTS = 5, MOST_TIMES = 5;
        private static final int SETTINGS = 8;

        private static final int[] SETTING_FIRST = {0, 7, 0, 3, 6, 8, 9, 10};
        private static final int[] SETTING_LEAST = {0, 1, 0, 0, 0, 0, 0, 0};
        private static final int[] SETTING_MOST = {5, 99, 60, 20, 20, 20, 20, 20};
        private static final int[] PART_LEAST = {0, 1, 1, 0, 0};
        private static final int[] PART_MOST = {25, 7, 5, 5, 5};

        final Table people;
        final Table tries;
        final Table questions;
        final Table settings;
        final Table known;
        int day;

        Hall() {
            people = new Table(PEOPLE, 7);
            tries = new Table(5, 3);
            questions = new Table(6, 2);
            settings = new Table(1, SETTINGS);
            known = new Table(1, PARTS);
            settings.addRow();
            known.addRow();
            begin();
        }

        void begin() {
            day = 0;
            people.forgetAll();
            tries.forgetAll();
            questions.forgetAll();
            for (int what = 0; what < SETTINGS; what++) {
                settings.set(0, what, at(SETTING_FIRST, what));
            }
            for (int part = 0; part < PARTS; part++) {
                known.set(0, part, NONE);
            }
        }

        void become(Hall other) {
            day = other.day;
            people.become(other.people);
            tries.become(other.tries);
            questions.become(other.questions);
            settings.become(other.settings);
            known.become(other.known);
        }

        long mixedInto(long h) {
            h = people.mixedInto(h);
            h = tries.mixedInto(h);
            h = questions.mixedInto(h);
            h = settings.mixedInto(h);
            return known.mixedInto(h);
        }

        int tellOne(long name, int beats, int place, int job, int strength, int seen) {
            boolean who = Names.isName(name) && isPartValue(2, beats);
            boolean where = isPartValue(3, place) && isPartValue(4, job);
            if (!who || !where || !within(strength, 0, MOST_STRENGTH) || !within(seen, 1, 9)) {
                return BAD;
            }
            int person = people.addRow();
            if (person >= 0) {
                people.set(person, NAME, name);
                people.set(person, BEATS, beats);
                people.set(person, PLACE, place);
                people.set(person, JOB, job);
                people.set(person, STRENGTH, strength);
                people.set(person, SEEN, seen);
                people.set(person, LAST, day);
            }
            return person;
        }

        int tellTry(int kind, int seconds, int ease) {
            if (!within(kind, 0, Rows.OUTRIGHT) || !within(seconds, 1, 20) || !within(ease, 1, 20)) {
                return BAD;
            }
            int number = tries.addRow();
            if (number >= 0) {
                tries.set(number, KIND, kind);
                tries.set(number, SECONDS, seconds);
                tries.set(number, EASE, ease);
            }
            return number;
        }

        int tellQuestion(int part, int shows) {
            if (!isPart(part) || !within(shows, 0, 9)) {
                return BAD;
            }
            int number = questions.addRow();
            if (number >= 0) {
                questions.set(number, PART, part);
                questions.set(number, SHOWS, shows);
            }
            return number;
        }

        int tellSetting(int what, int v) {
            if (!within(what, 0, SETTINGS - 1)
                    || !within(v, at(SETTING_LEAST, what), at(SETTING_MOST, what))) {
                return BAD;
            }
            int was = setting(what);
            settings.set(0, what, v);
            return was;
        }

        int setting(int what) {
            return settings.number(0, what);
        }

        int law(int times) {
            return times > 0 ? setting(ACROSS + times) : 0;
        }

        int strengthLeft(int person, int later) {
            int falls = setting(FALLS);
            int since = day + later - people.number(person, LAST);
            int fallen = falls > 0 ? since / falls : 0;
            return Math.max(0, people.number(person, STRENGTH) - fallen);
        }

        int thinkOf(int person) {
            int strength = Math.min(MOST_STRENGTH, strengthLeft(person, 0) + THOUGHT_GIVES);
            people.set(person, STRENGTH, strength);
            people.set(person, LAST, day);
            return strength;
        }

        int shame(int person) {
            return Math.min(20, (day - people.number(person, LAST)) / 50);
        }

        int hasOf(int part) {
            return known.number(0, part);
        }

        int partOf(int person, int part) {
            switch (part) {
                case 0:
                    return Names.firstLetter(people.get(person, NAME));
                case 1:
                    return Names.lettersOf(people.get(person, NAME));
                case 2:
                    return people.number(person, BEATS);
                case 3:
                    return people.number(person, PLACE);
                default:
                    return people.number(person, JOB);
            }
        }

        static boolean isPart(int part) {
            return within(part, 0, PARTS - 1);
        }

        static boolean isPartValue(int part, int v) {
            return within(v, at(PART_LEAST, part), at(PART_MOST, part));
        }
    }

    /** What may be undone: a ring of HALLS, so that the oldest one makes room for the next. */
    private static final class Past {
        private static final int MOST = 4;

        private final Hall[] ring;
        private int behindLast;
        private int kept;

        Past() {
            ring = new Hall[MOST];
            for (int i = 0; i < ring.length; i++) {
                ring[i] = new Hall();
            }
        }

        int size() {
            return kept;
        }

        void forget() {
            kept = 0;
        }

        void keep(Hall hall) {
            Hall slot = slotAt(behindLast);
            if (slot != null) {
                slot.become(hall);
                behindLast = (behindLast + 1) % MOST;
                kept = Math.min(MOST, kept + 1);
            }
        }

        boolean giveBack(Hall hall) {
            int last = (behindLast + MOST - 1) % MOST;
            Hall slot = slotAt(last);
            if (kept == 0 || slot == null) {
                return false;
            }
            hall.become(slot);
            behindLast = last;
            kept--;
            return true;
        }

        private Hall slotAt(int i) {
            return i >= 0 && i < ring.length ? ring[i] : null;
        }
    }

    /** ROWS of TRIES; it holds how the ROW that was gone through last came out. */
    private static final class Rows {
        static final int BY_LETTERS = 1, BY_PLACE = 2, LET_BE = 3, ASK_ROUND = 4, OUTRIGHT = 5;
        // 400 for each of five TRIES: COMES of every ROW is a whole number of these.
        static final long WHOLE = 400L * 400 * 400 * 400 * 400;
        private static final int ALL = 1 + 5 + 20 + 60 + 120 + 120;
        private static final int HIGHEST = 54321;

        private final int[] all;
        private int held;
        private int seconds;
        private int help;
        private boolean nothingAcross;
        private boolean outright;
        private long missing;

        // Each ROW is lengthened in turn: shorter ones come first, then lower numbers.
        Rows() {
            all = new int[ALL];
            int found = 1;
            for (int i = 0; i < all.length; i++) {
                for (int digit = 1; digit <= 5; digit++) {
                    if (found < all.length && !hasDigit(all[i], digit)) {
                        all[found] = all[i] * 10 + digit;
                        found++;
                    }
                }
            }
        }

        private static boolean hasDigit(int row, int digit) {
            boolean has = false;
            for (int power = 10000; power > 0; power /= 10) {
                has = has || row / power % 10 == digit;
            }
            return has;
        }

        int seconds() {
            return seconds;
        }

        long brings() {
            return WHOLE - missing;
        }

        boolean go(Hall hall, int person, int row) {
            held = hall.strengthLeft(person, 0);
            seconds = 0;
            help = 0;
            nothingAcross = false;
            outright = false;
            missing = WHOLE;
            int used = 0;
            boolean fits = row >= 0 && row <= HIGHEST;
            for (int power = 10000; fits && power > 0; power /= 10) {
                if (row >= power) {
                    int number = row / power % 10 - 1;
                    fits = hall.tries.holds(number) && !isIn(used, number);
                    if (fits) {
                        used |= 1 << number;
                        take(hall, person, number);
                    }
                }
            }
            return fits;
        }

        private void take(Hall hall, int person, int number) {
            int kind = hall.tries.number(number, Hall.KIND);
            nothingAcross = nothingAcross || kind == LET_BE;
            outright = outright || kind == OUTRIGHT;
            boolean heedsWrongName = kind <= BY_PLACE && !nothingAcross;
            if (!heedsWrongName || seconds >= hall.setting(Hall.ACROSS)) {
                missing = missing / 400 * (400 - chance(hall, person, number, kind));
            }
            seconds += hall.tries.number(number, Hall.SECONDS);
            help += kind == BY_LETTERS ? 2 : kind == BY_PLACE ? 3 : 0;
        }

        private int chance(Hall hall, int person, int number, int kind) {
            int ease = Math.min(20, hall.tries.number(number, Hall.EASE) + help);
            int straight = held * ease;
            switch (kind) {
                case BY_PLACE:
                    boolean isHere = hall.people.number(person, Hall.PLACE) == hall.setting(Hall.HERE);
                    return isHere ? straight : straight / 2;
                case LET_BE:
                    return straight / 2;
                case ASK_ROUND:
                    return 10 * ease;
                case OUTRIGHT:
                    return 400;
                default:
                    return straight;
            }
        }

        int bestOf(Hall hall, int person, int t, boolean outrightToo) {
            int best = 0;
            long least = WHOLE;
            for (int i = 0; i < all.length; i++) {
                boolean counts = go(hall, person, all[i]) && seconds <= t && (outrightToo || !outright);
                if (counts && missing < least) {
                    best = all[i];
                    least = missing;
                }
            }
            return best;
        }
    }

    /** What PARTS tell of PEOPLE. */
    private static final class Parts {
        static int whoseBits(Hall hall) {
            int bits = 0;
            for (int person = 0; person < hall.people.size(); person++) {
                if (hasAll(hall, person)) {
                    bits |= 1 << person;
                }
            }
            return bits;
        }

        private static boolean hasAll(Hall hall, int person) {
            boolean all = true;
            for (int part = 0; part < Hall.PARTS; part++) {
                int had = hall.hasOf(part);
                all = all && (had == NONE || had == hall.partOf(person, part));
            }
            return all;
        }

        static int seenOf(Hall hall, int people) {
            int seen = 0;
            for (int person = 0; person < Hall.PEOPLE; person++) {
                if (isIn(people, person)) {
                    seen += hall.people.number(person, Hall.SEEN);
                }
            }
            return seen;
        }

        private static int alikeIn(Hall hall, int people, int one, int part) {
            int bits = 0;
            for (int person = 0; person < Hall.PEOPLE; person++) {
                if (isIn(people, person) && hall.partOf(person, part) == hall.partOf(one, part)) {
                    bits |= 1 << person;
                }
            }
            return bits;
        }

        // The mean itself would be this by SEEN of all, which is the same for every PART.
        private static int leftInMean(Hall hall, int people, int part) {
            int sum = 0;
            for (int person = 0; person < Hall.PEOPLE; person++) {
                if (isIn(people, person)) {
                    int alike = seenOf(hall, alikeIn(hall, people, person, part));
                    sum += alike * hall.people.number(person, Hall.SEEN);
                }
            }
            return sum;
        }

        static int nextPart(Hall hall, int people) {
            int best = NONE;
            int fewest = 0;
            for (int part = 0; part < Hall.PARTS; part++) {
                if (hall.hasOf(part) == NONE) {
                    int left = leftInMean(hall, people, part);
                    if (best == NONE || left < fewest) {
                        best = part;
                        fewest = left;
                    }
                }
            }
            return best;
        }

        static int bestQuestion(Hall hall, int people) {
            int best = NONE;
            int fewest = 0;
            int least = 0;
            for (int number = 0; number < hall.questions.size(); number++) {
                int part = hall.questions.number(number, Hall.PART);
                int shows = hall.questions.number(number, Hall.SHOWS);
                if (hall.hasOf(part) == NONE) {
                    int left = leftInMean(hall, people, part);
                    if (best == NONE || left < fewest || left == fewest && shows < least) {
                        best = number;
                        fewest = left;
                        least = shows;
                    }
                }
            }
            return best;
        }

        static int fewestApart(Hall hall) {
            int best = NONE;
            for (int parts = 0; parts < 1 << Hall.PARTS; parts++) {
                boolean fewer = best == NONE || Integer.bitCount(parts) < Integer.bitCount(best);
                if (fewer && tellsAllApart(hall, parts)) {
                    best = parts;
                }
            }
            return best;
        }

        private static boolean tellsAllApart(Hall hall, int parts) {
            boolean apart = true;
            for (int one = 0; apart && one < hall.people.size(); one++) {
                for (int other = one + 1; apart && other < hall.people.size(); other++) {
                    apart = !allAlike(hall, one, other, parts);
                }
            }
            return apart;
        }

        private static boolean allAlike(Hall hall, int one, int other, int parts) {
            boolean alike = true;
            for (int part = 0; alike && part < Hall.PARTS; part++) {
                alike = !isIn(parts, part) || hall.partOf(one, part) == hall.partOf(other, part);
            }
            return alike;
        }

        static int takenPair(Hall hall, int d, int i) {
            int pairs = 0;
            for (int one = 0; one < hall.people.size(); one++) {
                for (int other = one + 1; other < hall.people.size(); other++) {
                    if (isTaken(hall, one, other, d)) {
                        if (pairs == i) {
                            return 100 * one + other;
                        }
                        pairs++;
                    }
                }
            }
            return i == NONE ? pairs : NOT_SO_MANY;
        }

        private static boolean isTaken(Hall hall, int one, int other, int d) {
            long name = hall.people.get(one, Hall.NAME);
            long second = hall.people.get(other, Hall.NAME);
            return Names.lettersOf(name) == Names.lettersOf(second)
                    && Names.unlikePlaces(name, second) <= d;
        }
    }

    /** A NIGHT of learning: by person and minutes the most that this one and all behind can leave. */
    private static final class Night {
        private static final int MINUTES = MOST_MINUTES + 1;

        private final int[] most;
        private int learnt;

        Night() {
            most = new int[(Hall.PEOPLE + 1) * MINUTES];
        }

        void plan(Hall hall, int people, int minutes) {
            learnt = people;
            for (int person = Hall.PEOPLE - 1; person >= 0; person--) {
                for (int m = 0; m <= minutes; m++) {
                    setMost(person, m, isIn(people, person) ? 0 : mostFrom(person + 1, m));
                }
                for (int times = 0; times <= Hall.MOST_TIMES && isIn(people, person); times++) {
                    sayTimes(hall, person, times, minutes);
                }
            }
        }

        private void sayTimes(Hall hall, int person, int times, int minutes) {
            int left = leftOf(hall, person, times);
            int cost = times * hall.partOf(person, 1);
            for (int m = cost; m <= minutes; m++) {
                int together = left + mostFrom(person + 1, m - cost);
                if (together > mostFrom(person, m)) {
                    setMost(person, m, together);
                }
            }
        }

        int mostLeft(int minutes) {
            return mostFrom(0, minutes);
        }

        int timesOf(Hall hall, int minutes, int person) {
            int rest = minutes;
            int times = 0;
            for (int p = 0; p <= person && p < Hall.PEOPLE; p++) {
                times = isIn(learnt, p) ? fewestTimes(hall, p, rest) : 0;
                rest -= times * hall.partOf(p, 1);
            }
            return times;
        }

        private int fewestTimes(Hall hall, int person, int minutes) {
            for (int times = 0; times <= Hall.MOST_TIMES; times++) {
                int rest = minutes - times * hall.partOf(person, 1);
                int together = leftOf(hall, person, times) + mostFrom(person + 1, rest);
                if (rest >= 0 && together == mostFrom(person, minutes)) {
                    return times;
                }
            }
            return 0;
        }

        private static int leftOf(Hall hall, int person, int times) {
            boolean inPlace = hall.partOf(person, 3) == hall.partOf(person, 4);
            int left = hall.strengthLeft(person, 0) + hall.law(times);
            return Math.min(20, left + (times > 0 && inPlace ? 2 : 0));
        }

        private int mostFrom(int person, int minutes) {
            return at(most, person * MINUTES + minutes);
        }

        private void setMost(int person, int minutes, int v) {
            set(most, person * MINUTES + minutes, v);
        }
    }

    /** BOTH at a loss: costs in the mean, times 20, of one that is known by so much of 20. */
    private static final class Both {
        static int restBits(int a, int b) {
            int bits = 0;
            for (int pair = 0; pair < 4; pair++) {
                boolean heSays = pair <= 1;
                boolean sheSays = pair == 0 || pair == 2;
                boolean heRests = cost(heSays, sheSays, b) <= cost(!heSays, sheSays, b);
                boolean sheRests = cost(sheSays, heSays, a) <= cost(!sheSays, heSays, a);
                bits |= heRests && sheRests ? 1 << pair : 0;
            }
            return bits;
        }

        private static int cost(boolean says, boolean otherSays, int known) {
            if (says) {
                return 4 * known;
            }
            return otherSays ? 0 : 10 * (20 - known);
        }
    }

    /** THE TEXT. */
    private static final class Text {
        private static final int MOST = 300;

        private final byte[] bytes;
        private int length;

        Text() {
            bytes = new byte[MOST];
        }

        int size() {
            return length;
        }

        int add(long v, int n) {
            if (!within(n, 1, 8)) {
                return BAD;
            }
            if (length + n > bytes.length) {
                return FULL;
            }
            for (int k = n - 1; k >= 0; k--) {
                append((byte) (v >> 8 * k));
            }
            return length;
        }

        private void append(byte b) {
            if (length >= 0 && length < bytes.length) {
                bytes[length] = b;
                length++;
            }
        }

        int empty() {
            int had = length;
            length = 0;
            return had;
        }

        int byteAt(int i) {
            return i >= 0 && i < length && i < bytes.length ? bytes[i] & 255 : NONE;
        }
    }

    /** Reads THE TEXT, TOKEN by TOKEN, into a draft, which becomes THE HALL only if all of it stands. */
    private static final class Reader {
        private static final int END = 0, WORD = 1, NUMBER = 2, STOP = 3, NOTHING = 4;
        private static final int ONE = 0, TRY = 1, ASK = 2, HERE = 3, FALLS = 4;
        private static final int[] NUMBERS = {5, 3, 2, 1, 1};

        private final Text text;
        private final Hall draft;
        private final int[] numbers;
        private int kind;
        private int start;
        private int behind;
        private long name;
        private int items;
        private int fault;
        private int refused;

        Reader(Text text) {
            this.text = text;
            draft = new Hall();
            numbers = new int[5];
        }

        // A FAULT anywhere goes ahead of an ITEM that is refused, so all is read in any case.
        int readInto(Hall hall) {
            draft.begin();
            behind = 0;
            items = 0;
            fault = NONE;
            refused = NONE;
            step();
            for (int i = 0; i < Text.MOST && kind != END && fault == NONE; i++) {
                readItem();
            }
            if (fault != NONE) {
                return -10 - fault;
            }
            if (refused != NONE) {
                return -1000 - refused;
            }
            hall.become(draft);
            return items;
        }

        private void readItem() {
            int what = kind == WORD ? whatItem() : NONE;
            expect(what != NONE);
            if (what == ONE) {
                name = wordAsName();
                expect(kind == WORD);
            }
            for (int k = 0; k < at(NUMBERS, what) && fault == NONE; k++) {
                set(numbers, k, tokenAsNumber());
                expect(kind == NUMBER);
            }
            expect(kind == STOP);
            if (fault == NONE) {
                if (refused == NONE && tellItem(what) < 0) {
                    refused = items;
                }
                items++;
            }
        }

        // Only the first TOKEN that can not stand there is the FAULT.
        private void expect(boolean stands) {
            if (fault == NONE) {
                if (stands) {
                    step();
                } else {
                    fault = start;
                }
            }
        }

        private int tellItem(int what) {
            int a = at(numbers, 0);
            int b = at(numbers, 1);
            int c = at(numbers, 2);
            switch (what) {
                case ONE:
                    return draft.tellOne(name, a, b, c, at(numbers, 3), at(numbers, 4));
                case TRY:
                    return draft.tellTry(a, b, c);
                case ASK:
                    return draft.tellQuestion(a, b);
                case HERE:
                    return draft.tellSetting(Hall.HERE, a);
                default:
                    return draft.tellSetting(Hall.FALLS, a);
            }
        }

        private void step() {
            int end = text.size();
            start = behind;
            while (start < end && text.byteAt(start) == ' ') {
                start++;
            }
            behind = start;
            if (start >= end) {
                kind = END;
            } else if (isLetter(start)) {
                kind = WORD;
                while (behind < end && isLetter(behind)) {
                    behind++;
                }
            } else if (isFigure(start)) {
                while (behind < end && isFigure(behind)) {
                    behind++;
                }
                kind = behind - start <= 2 ? NUMBER : NOTHING;
            } else {
                kind = text.byteAt(start) == ';' ? STOP : NOTHING;
                behind++;
            }
        }

        private boolean isLetter(int i) {
            return within(text.byteAt(i), 'a', 'z');
        }

        private boolean isFigure(int i) {
            return within(text.byteAt(i), '0', '9');
        }

        private int whatItem() {
            if (isWord("one")) {
                return ONE;
            } else if (isWord("try")) {
                return TRY;
            } else if (isWord("ask")) {
                return ASK;
            } else if (isWord("here")) {
                return HERE;
            }
            return isWord("falls") ? FALLS : NONE;
        }

        private boolean isWord(String word) {
            boolean same = behind - start == word.length();
            for (int k = 0; same && k < word.length(); k++) {
                same = text.byteAt(start + k) == word.charAt(k);
            }
            return same;
        }

        // 0 is no NAME: one that is too long is refused as such.
        private long wordAsName() {
            long value = 0;
            for (int i = start; i < behind && behind - start <= Names.MOST_LETTERS; i++) {
                value = 32 * value + text.byteAt(i) - 'a' + 1;
            }
            return value;
        }

        private int tokenAsNumber() {
            int value = 0;
            for (int i = start; i < behind && kind == NUMBER; i++) {
                value = 10 * value + text.byteAt(i) - '0';
            }
            return value;
        }
    }
}
