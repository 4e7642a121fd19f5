/** The sentences of 'Terms' and of promises 9 to 11 that name an edge of THE TEXT, each with its own test. */
public final class EdgeTextTest {
    private static final int MAX = Edge.MAX, MIN = Edge.MIN;
    private static final String[] WORDS = {"one", "try", "ask", "here", "falls"};
    private static final String[] ITEMS = {"one rita 2 1 3 12 4;", "try 4 3 10;", "ask 1 3;", "here 5;", "falls 99;"};

    public static void main(String[] args) {
        Edge e = new Edge("EdgeTextTest");
        bytesAtOnce(e);
        lowestBytes(e);
        fullOfBytes(e);
        cleared(e);
        emptyOrBlank(e);
        howManyItems(e);
        longestText(e);
        everyItemAlone(e);
        endedByStop(e);
        endsTooEarly(e);
        wordsThatAreNone(e);
        lettersOfWords(e);
        anyWordBehindOne(e);
        oneOrTwoFigures(e);
        threeFigures(e);
        bytesThatBeginNone(e);
        blanksAnywhere(e);
        noOtherBlanks(e);
        blanksNeeded(e);
        tokensInWrongPlace(e);
        theFirstFault(e);
        toldAnew(e);
        fewerThanAhead(e);
        asAtFirst(e);
        textAndImagesStay(e);
        inTheirOrder(e);
        longNames(e);
        numbersOutOfBounds(e);
        itemsThatAreTooMany(e);
        theFirstRefused(e);
        faultAheadOfRefused(e);
        itemsAreNone(e);
        nothingUndoneBehindRead(e);
        e.end();
    }

    /** A busy hall, and in it this TEXT. */
    private static Edge.Telling busyWith(String text) {
        return x -> {
            Edge.busy(x);
            Due.text(x, text);
        };
    }

    private static void fault(Edge e, String text, int place) {
        e.looks("read \"" + text + "\"", busyWith(text), x -> x.read(), -10 - place);
    }

    private static void refused(Edge e, String text, int item) {
        e.looks("read \"" + text + "\"", busyWith(text), x -> x.read(), -1000 - item);
    }

    private static void stands(Edge e, String text, int items, Edge.Telling hall) {
        Edge.Telling other = x -> {
            hall.to(x);
            Due.text(x, text);
        };
        Edge.Telling told = x -> Due.text(x, text);
        e.taken("read \"" + text + "\"", told, x -> x.read(), items, other);
    }

    private static void bytesAtOnce(Edge e) {
        e.says("9: n (1 .. 8) bytes: how many it has; BAD");
        for (int n : new int[] {0, -1, 9, MIN, MAX}) {
            e.bad("type of " + n, x -> x.type(0x2020202020202020L, n));
        }
        TongueTip x = new TongueTip();
        int has = 0;
        for (int n = 1; n <= 8; n++) {
            has += n;
            e.due("type of " + n, x.type(-1, n), has);
            e.due("bytes", x.count(3), has);
        }
        e.due("nothing is refused", x.status(0) + x.status(1) + x.status(2), 0);
    }

    private static void lowestBytes(Edge e) {
        e.says("9: the lowest n bytes of v, the highest of them first");
        String text = "falls 12";
        for (int n = 1; n <= 8; n++) {
            long above = n == 8 ? 0 : 0xFFL << 8 * n;
            TongueTip x = new TongueTip();
            for (int i = 0; i < 8; i += n) {
                long v = 0;
                int some = Math.min(n, 8 - i);
                for (int k = 0; k < some; k++) {
                    v = v << 8 | text.charAt(i + k);
                }
                x.type(some == n ? v | above : v, some);
            }
            x.type(0xABCD_EF01_2345_6700L | ';', 1);
            e.due("typed by " + n, x.read(), 1);
            e.due("FALLS", x.put(1, 7), 12);
        }
        TongueTip x = new TongueTip();
        x.type(Long.MIN_VALUE | ' ', 1);
        e.due("a blank alone", x.read(), 0);
        x.type(-1L, 1);
        e.due("byte 255", x.read(), -11);
    }

    private static void fullOfBytes(Edge e) {
        e.says("9, Terms: THE TEXT (300 bytes at most): FULL");
        for (int n = 1; n <= 8; n++) {
            int some = n;
            TongueTip x = Edge.hall(y -> Due.text(y, " ".repeat(300 - some)));
            e.due("to the last byte by " + n, x.type(0x2020202020202020L, n), 300);
            e.due("bytes", x.count(3), 300);
            e.due("nothing is refused", x.status(0) + x.status(1) + x.status(2), 0);
            e.refused("a byte more by " + n, y -> Due.text(y, " ".repeat(301 - some)),
                y -> y.type(-1, some), -4, Edge.FULL);
            e.refused("none left, by " + n, Edge::full, y -> y.type(-1, some), -4, Edge.FULL);
        }
        e.refused("BAD comes first", Edge::full, y -> y.type(-1, 0), -2, Edge.BAD);
        e.refused("BAD comes first", Edge::full, y -> y.type(-1, 9), -2, Edge.BAD);
    }

    private static void cleared(Edge e) {
        e.says("10: THE TEXT is empty: how many it had");
        e.looks("an empty one", Edge::nobody, x -> x.clear(), 0);
        e.taken("one of 24", Edge::busy, x -> x.clear(), 24, busyWith(""));
        e.taken("one of 300", busyWith(" ".repeat(300)), x -> x.clear(), 300, busyWith(""));
        e.taken("one byte", busyWith("?"), x -> x.clear(), 1, busyWith(""));
        TongueTip x = Edge.hall(Edge::full);
        x.clear();
        e.due("room again", x.type(1, 8), 8);
    }

    private static void emptyOrBlank(Edge e) {
        e.says("Terms: FAULT: one that is empty or has blanks alone has none");
        for (int blanks : new int[] {0, 1, 2, 8, 299, 300}) {
            String text = " ".repeat(blanks);
            stands(e, text, 0, Edge::nobody);
            TongueTip x = Edge.hall(busyWith(text));
            e.due("read of " + blanks + " blanks", x.read(), 0);
            e.due("nobody then", x.count(0) + x.count(1) + x.count(2) + x.count(4) + x.count(5), 0);
        }
    }

    private static void howManyItems(Edge e) {
        e.says("11: THE HALL is read: how many ITEMS");
        for (int items : new int[] {1, 2, 11, 37}) {
            TongueTip x = new TongueTip();
            e.due("ITEMS " + items, Due.read(x, "falls 5;".repeat(items)), items);
        }
        TongueTip x = new TongueTip();
        e.due("as many as there may be", Due.read(x, "here0;".repeat(50)), 50);
    }

    private static void longestText(Edge e) {
        e.says("Terms: THE HALL is a TEXT (300 bytes at most)");
        stands(e, " ".repeat(293) + "here 4;", 1, x -> x.put(0, 4));
        stands(e, "here 4;" + " ".repeat(293), 1, x -> x.put(0, 4));
        stands(e, "here" + " ".repeat(294) + "4;", 1, x -> x.put(0, 4));
        fault(e, " ".repeat(299) + ";", 299);
        fault(e, " ".repeat(294) + "here 4", 300);
        fault(e, "here 4;" + " ".repeat(292) + "a", 299);
        refused(e, " ".repeat(293) + "here 6;", 0);
    }

    private static void everyItemAlone(Edge e) {
        e.says("Terms: ITEMS: one NAME BEATS PLACE JOB STRENGTH SEEN; try KIND SECONDS EASE; ask PART SHOWS; here p; falls n");
        stands(e, ITEMS[0], 1, x -> x.one(Due.name("rita"), 2, 1, 3, 12, 4));
        stands(e, ITEMS[1], 1, x -> x.addTry(4, 3, 10));
        stands(e, ITEMS[2], 1, x -> x.question(1, 3));
        stands(e, ITEMS[3], 1, x -> x.put(0, 5));
        stands(e, ITEMS[4], 1, x -> x.put(1, 99));
    }

    private static void endedByStop(Edge e) {
        e.says("Terms: ITEMS, each ended by ; (none stands alone)");
        for (String item : ITEMS) {
            String open = item.substring(0, item.length() - 1);
            fault(e, open, open.length());
            fault(e, open + " here 1;", open.length() + 1);
            fault(e, item + ";", item.length());
            fault(e, ";" + item, 0);
        }
        fault(e, ";", 0);
        fault(e, "  ;", 2);
    }

    private static void endsTooEarly(Edge e) {
        e.says("Terms: FAULT: the TEXT's length, if it ends too early");
        for (String item : ITEMS) {
            String[] tokens = item.replace(";", "").split(" ");
            String early = "";
            for (String token : tokens) {
                early += (early.isEmpty() ? "" : " ") + token;
                fault(e, early, early.length());
                fault(e, early + "   ", early.length() + 3);
                fault(e, item + early, item.length() + early.length());
            }
        }
    }

    private static void wordsThatAreNone(Edge e) {
        e.says("Terms: FAULT: a word that is none");
        for (String word : WORDS) {
            for (int i = 0; i <= word.length(); i++) {
                fault(e, word.substring(0, i) + "x" + word.substring(i) + " 1;", 0);
            }
            for (int i = 0; i < word.length(); i++) {
                char last = (char) (word.charAt(i) == 'z' ? 'y' : word.charAt(i) + 1);
                fault(e, word.substring(0, i) + last + word.substring(i + 1) + " 1;", 0);
                if (i > 0) {
                    fault(e, word.substring(0, i) + " 1;", 0);
                    fault(e, "here 1; " + word.substring(0, i), 8);
                }
            }
        }
        fault(e, "name", 0);
        fault(e, "here 1;across 3;", 7);
        fault(e, "here 1;law 1 3;", 7);
    }

    private static void lettersOfWords(Edge e) {
        e.says("Terms: TOKENS: words of letters a .. z");
        stands(e, "one a 1 0 0 0 1;one z 1 0 0 0 1;", 2, x -> {
            x.one(1, 1, 0, 0, 0, 1);
            x.one(26, 1, 0, 0, 0, 1);
        });
        fault(e, "one A 1 0 0 0 1;", 4);
        fault(e, "one Z 1 0 0 0 1;", 4);
        fault(e, "one ` 1 0 0 0 1;", 4);
        fault(e, "one { 1 0 0 0 1;", 4);
        fault(e, "one a{ 1 0 0 0 1;", 5);
        fault(e, "one a` 1 0 0 0 1;", 5);
        fault(e, "HERE 1;", 0);
        fault(e, "hEre 1;", 0);
    }

    private static void anyWordBehindOne(Edge e) {
        e.says("Terms: any word behind one is a NAME");
        for (String word : WORDS) {
            stands(e, "one " + word + " 1 0 0 0 1;", 1, x -> x.one(Due.name(word), 1, 0, 0, 0, 1));
        }
        fault(e, "try one 1 2;", 4);
        fault(e, "here here;", 5);
        fault(e, "one rita one 1 0 0 0 1;", 9);
    }

    private static void oneOrTwoFigures(Edge e) {
        e.says("Terms: TOKENS: figures (1 or 2 are one number)");
        for (int v = 0; v <= 5; v++) {
            int here = v;
            stands(e, "here " + v + ";", 1, x -> x.put(0, here));
            stands(e, "here 0" + v + ";", 1, x -> x.put(0, here));
        }
        for (int v : new int[] {10, 19, 90, 99}) {
            stands(e, "falls " + v + ";", 1, x -> x.put(1, v));
        }
        stands(e, "try 05 20 09;", 1, x -> x.addTry(5, 20, 9));
        fault(e, "here /;", 5);
        fault(e, "here :;", 5);
    }

    private static void threeFigures(Edge e) {
        e.says("Terms: FAULT: a run of three figures or more (at its first one)");
        fault(e, "falls 100;", 6);
        fault(e, "falls 007;", 6);
        fault(e, "falls   0007;", 8);
        fault(e, "falls 12345678901234567890;", 6);
        fault(e, "try 1 2 003;", 8);
        fault(e, "one rita123 1 1 1 1;", 8);
        fault(e, "123", 0);
        fault(e, "here 1;  444", 9);
        fault(e, "falls 100", 6);
    }

    private static void bytesThatBeginNone(Edge e) {
        e.says("Terms: FAULT: a byte that begins none, too");
        for (int b = 0; b < 256; b++) {
            char c = (char) b;
            boolean begins = c >= 'a' && c <= 'z' || c >= '0' && c <= '9' || c == ';' || c == ' ';
            if (!begins) {
                fault(e, "here 1; " + c, 8);
                fault(e, "here " + c + "1;", 5);
            }
        }
        fault(e, "here -1;", 5);
        fault(e, "here 1.;", 6);
        fault(e, "one ri-ta 1 1 1 1 1;", 6);
    }

    private static void blanksAnywhere(Edge e) {
        e.says("Terms: any number of blanks (32) ahead of, between, behind them");
        for (int n : new int[] {0, 1, 2, 9, 30}) {
            String b = " ".repeat(n);
            stands(e, b + "here" + b + "3" + b + ";" + b + "falls" + b + "88" + b + ";" + b, 2, x -> {
                x.put(0, 3);
                x.put(1, 88);
            });
        }
        for (int n : new int[] {1, 2, 30}) {
            String b = " ".repeat(n);
            stands(e, "one" + b + "rita" + b + "2" + b + "1" + b + "3" + b + "12" + b + "4;", 1,
                x -> x.one(Due.name("rita"), 2, 1, 3, 12, 4));
        }
    }

    private static void noOtherBlanks(Edge e) {
        e.says("Terms: blanks (32), no others");
        for (char c : new char[] {0, 9, 10, 11, 12, 13, 31, 33, 133, 160}) {
            fault(e, "" + c, 0);
            fault(e, "here" + c + "1;", 4);
            fault(e, "here 1;" + c, 7);
        }
    }

    private static void blanksNeeded(Edge e) {
        e.says("Terms: blanks are needed only between two words, two numbers");
        stands(e, "one rita2 1 3 12 4;try4 3 10;ask1 3;here5;falls99;", 5, x -> {
            x.one(Due.name("rita"), 2, 1, 3, 12, 4);
            x.addTry(4, 3, 10);
            x.question(1, 3);
            x.put(0, 5);
            x.put(1, 99);
        });
        fault(e, "onerita 2 1 3 12 4;", 0);
        fault(e, "ask13;", 5);
        fault(e, "try4 310;", 5);
        fault(e, "try 43 10;", 9);
        stands(e, "try 4 3 1 ;", 1, x -> x.addTry(4, 3, 1));
    }

    private static void tokensInWrongPlace(Edge e) {
        e.says("Terms: FAULT: the place of the first byte of the first TOKEN that can not stand there");
        for (String item : ITEMS) {
            String[] tokens = item.replace(";", "").split(" ");
            int place = 0;
            for (int k = 0; k < tokens.length; k++) {
                String ahead = item.substring(0, place);
                boolean name = k == 1 && tokens[0].equals("one");
                boolean word = k == 0 || name;
                fault(e, ahead + (word ? "7" : "rita") + item.substring(place + tokens[k].length()), place);
                fault(e, ahead + ";", place);
                fault(e, "here 1; " + ahead + ";", 8 + place);
                place += tokens[k].length() + 1;
            }
            int end = item.length() - 1;
            fault(e, item.substring(0, end) + " 1;", end + 1);
            fault(e, item.substring(0, end) + " one;", end + 1);
        }
    }

    private static void theFirstFault(Edge e) {
        e.says("Terms: FAULT: the first TOKEN, of several that can not stand there");
        fault(e, "here ; falls ; ?", 5);
        fault(e, "hre 999; ?", 0);
        fault(e, "here 1 2 3 x ?", 7);
        fault(e, "here 1; ; ?", 8);
        fault(e, "  ?  ?", 2);
    }

    private static void toldAnew(Edge e) {
        e.says("Terms: told anew by these alone (DAY 0, nothing one has)");
        String text = "one al 1 2 3 4 5;try 5 6 7;ask 4 9;";
        Edge.Telling told = busyWith(text);
        TongueTip x = Edge.hall(told);
        e.due("read", x.read(), 3);
        e.due("digest", x.digest(), Edge.mixed(1, 1, 1, text.length(), 0, 0, Due.name("al"), 1, 2, 3, 4, 5, 0,
            5, 6, 7, 4, 9, 0, 7, 0, 3, 6, 8, 9, 10, -1, -1, -1, -1, -1, 3, 20));
        for (int part = 0; part < 5; part++) {
            e.due("one has not " + part, x.has(part, -1), -1);
        }
        e.due("last THOUGHT OF on DAY 0", x.held(0, 6), 4);
        e.due("a DAY more", x.held(0, 7), 3);
        e.due("read again", x.read(), 3);
        e.due("people, as ahead of it", x.count(0), 1);
    }

    private static void fewerThanAhead(Edge e) {
        e.says("Terms: told anew by these alone (nothing is left of more that was told ahead)");
        TongueTip x = new TongueTip();
        Due.read(x, "one al 1 1 1 1 1;one bo 2 2 2 9 9;one al 1 1 1 9 9;try 0 1 1;try 5 1 1;ask 1 9;ask 2 0;");
        Due.read(x, "one al 1 1 1 1 1;one bo 2 2 2 9 9;try 0 1 1;ask 1 9;");
        e.due("whose", x.whose(), 3);
        e.due("index", x.index(), 1);
        e.due("pairs alike", x.takenFor(0, -1), 0);
        e.due("pairs of two letters", x.takenFor(2, -1), 1);
        e.due("ask", x.ask(), 0);
        e.due("the second TRY is none", x.comes(0, 2), -2);
        e.due("best", x.best(0, 60), 1);
        e.due("the third one is nobody", x.held(2, 0), -2);
        e.due("odds", x.odds(1), 1);
        e.fraction("odds", x, 9, 10);
        e.due("learn, the third one", x.learn(4, 9, -1), -10);
    }

    private static void asAtFirst(Edge e) {
        e.says("Terms: HERE, FALLS, ACROSS, LAWS as at first where it does not tell them");
        String[] texts = {"", "here 2;", "falls 8;", "here 0;falls 7;"};
        int[] here = {0, 2, 0, 0};
        int[] falls = {7, 7, 8, 7};
        for (int i = 0; i < texts.length; i++) {
            TongueTip x = Edge.hall(busyWith(texts[i]));
            x.read();
            int[] due = {here[i], falls[i], 0, 3, 6, 8, 9, 10};
            for (int what = 0; what < 8; what++) {
                e.due(texts[i] + " put " + what + ": what it was", x.put(what, 5), due[what]);
            }
        }
        String[] ahead = {"here 4;falls 88;one a 1 1 1 1 1;try 1 1 1;ask 1 1;", "here 4;falls 88;one a 1 1 1 1 1;?", "here 4;falls 88;here 6;"};
        for (String text : ahead) {
            TongueTip x = new TongueTip();
            Due.read(x, text);
            e.due("read behind \"" + text + "\"", Due.read(x, "ask 2 2;"), 1);
            x.clear();
            e.due("digest behind \"" + text + "\"", x.digest(), Edge.mixed(0, 0, 1, 0, 0, 0, 2, 2,
                0, 7, 0, 3, 6, 8, 9, 10, -1, -1, -1, -1, -1, 0, 1));
        }
    }

    private static void textAndImagesStay(Edge e) {
        e.says("Terms: THE TEXT, IMAGES stay");
        TongueTip x = Edge.hall(Edge::busy), y = Edge.hall(Edge::busy);
        e.due("read", x.read(), 2);
        e.due("bytes", x.count(3), 24);
        x.from(0);
        y.from(0);
        e.alike("on from the IMAGE", x, y);
        x = Edge.hall(Edge::busy);
        x.read();
        e.due("the IMAGE that was none stays none", x.from(1), -3);
    }

    private static void inTheirOrder(Edge e) {
        e.says("Terms: told in their order");
        stands(e, "here 1;falls 3;here 2;falls 4;", 4, x -> {
            x.put(0, 2);
            x.put(1, 4);
        });
        stands(e, "one b 1 1 1 1 1;one a 2 2 2 2 2;try 1 1 1;ask 1 1;try 2 2 2;ask 2 2;", 6, x -> {
            x.one(2, 1, 1, 1, 1, 1);
            x.one(1, 2, 2, 2, 2, 2);
            x.addTry(1, 1, 1);
            x.addTry(2, 2, 2);
            x.question(1, 1);
            x.question(2, 2);
        });
    }

    private static void longNames(Edge e) {
        e.says("Terms: refused: a NAME longer than 7 letters");
        stands(e, "one abcdefg 1 0 0 0 1;", 1, x -> x.one(Due.name("abcdefg"), 1, 0, 0, 0, 1));
        stands(e, "one zzzzzzz 1 0 0 0 1;", 1, x -> x.one(Due.name("zzzzzzz"), 1, 0, 0, 0, 1));
        String letters = "abcdefghijklmnopqrstuvwxyz";
        for (int n = 8; n <= 26; n++) {
            refused(e, "one " + letters.substring(0, n) + " 1 0 0 0 1;", 0);
        }
        refused(e, "one " + letters.repeat(10) + " 1 0 0 0 1;", 0);
        refused(e, "here 1;one aaaaaaaa 1 0 0 0 1;", 1);
    }

    private static void numbersOutOfBounds(Edge e) {
        int[][] least = {{1, 0, 0, 0, 1}, {0, 1, 1}, {0, 0}, {0}, {1}};
        int[][] most = {{5, 5, 5, 20, 9}, {5, 20, 20}, {4, 9}, {5}, {99}};
        for (int w = 0; w < WORDS.length; w++) {
            for (int k = 0; k < most[w].length; k++) {
                e.says("Terms: refused: numbers out of bounds: " + WORDS[w] + ", number " + k);
                e.due(least[w][k] + " is taken", Due.read(new TongueTip(), itemWith(w, k, least[w][k])), 1);
                e.due(most[w][k] + " is taken", Due.read(new TongueTip(), itemWith(w, k, most[w][k])), 1);
                for (int v : new int[] {least[w][k] - 1, most[w][k] + 1, 99}) {
                    if (v >= 0 && v > most[w][k] && v < 100 || v == 0 && least[w][k] == 1) {
                        refused(e, itemWith(w, k, v), 0);
                        refused(e, "here 1; falls 1;" + itemWith(w, k, v) + "here 1;", 2);
                    }
                }
            }
        }
    }

    private static String itemWith(int word, int number, int v) {
        int count = new int[] {5, 3, 2, 1, 1}[word];
        String item = WORDS[word] + (word == 0 ? " rita" : "");
        for (int k = 0; k < count; k++) {
            item += " " + (k == number ? v : 1);
        }
        return item + ";";
    }

    private static void itemsThatAreTooMany(Edge e) {
        e.says("Terms: the first ITEM that is refused: FULL ones, too");
        String[] items = {"one a1 1 1 1 1;", "try 1 1 1;", "ask 1 1;"};
        int[] most = {12, 5, 6};
        for (int i = 0; i < 3; i++) {
            TongueTip x = new TongueTip();
            e.due("as many as there may be", Due.read(x, items[i].repeat(most[i])), most[i]);
            e.due("all of them", x.count(i), most[i]);
            refused(e, items[i].repeat(most[i] + 1), most[i]);
            refused(e, "here 1;" + items[i].repeat(most[i] + 2), most[i] + 1);
        }
        // what was there ahead of it does not take up room
        TongueTip x = Edge.hall(Edge::full);
        e.due("at a full one", Due.read(x, items[0].repeat(12)), 12);
    }

    private static void theFirstRefused(Edge e) {
        e.says("11: -1000 less the number of the first ITEM (0 on) that is refused: nothing changes");
        refused(e, "here 6;", 0);
        refused(e, "here 6;here 6;", 0);
        refused(e, "here 5;here 6;here 7;", 1);
        refused(e, "one rita 1 1 1 1 1;try 1 1 1;ask 1 1;here 1;falls 0;try 9 9 9;", 4);
        refused(e, "here5;".repeat(49) + "here6;", 49);
    }

    private static void faultAheadOfRefused(Edge e) {
        e.says("Terms: a HALL without a FAULT is told: a FAULT goes ahead of an ITEM that is refused");
        fault(e, "here 6;here", 11);
        fault(e, "here 6;?", 7);
        fault(e, "here 6;here 6;here 100;", 19);
        fault(e, "one aaaaaaaa 1 1 1 1 1", 22);
        fault(e, "here 6", 6);
    }

    private static void itemsAreNone(Edge e) {
        e.says("Terms: STATUS: ITEMS are none (nor is a FAULT)");
        for (String text : new String[] {"here 6;", "one a1 1 1 1 1;".repeat(13), "try 1 1 1;".repeat(6), "ask 5 5;", "?", "here"}) {
            TongueTip x = new TongueTip();
            e.due("read \"" + text + "\" is refused", Due.read(x, text) < 0 ? 1 : 0, 1);
            for (int r = 0; r <= 2; r++) {
                e.due("STATUS " + r, x.status(r), 0);
            }
        }
    }

    private static void nothingUndoneBehindRead(Edge e) {
        e.says("Terms: behind read() nothing may be undone (behind one that is refused it may)");
        TongueTip x = Edge.hall(Edge::busy);
        e.due("may be undone", x.count(4), 2);
        e.due("a FAULT", Due.read(x, "?"), -10);
        e.due("may still be undone", x.count(4), 2);
        e.due("an ITEM that is refused", Due.read(x, "here 6;"), -1000);
        e.due("may still be undone", x.count(4), 2);
        e.due("read", Due.read(x, "here 5;"), 1);
        e.due("none may be undone", x.count(4), 0);
        e.due("undo", x.undo(), -3);
        x.days(1);
        e.due("what comes behind it may", x.undo(), 1);
        e.due("HERE as read", x.put(0, 0), 5);
        x.days(3);
        e.due("an empty one", Due.read(x, ""), 0);
        e.due("none may be undone", x.undo(), -3);
    }
}
