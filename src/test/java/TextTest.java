/** Promises 9 to 11: THE TEXT, and THE HALL that it tells. */
public final class TextTest {
    private static final int MAX = Integer.MAX_VALUE, MIN = Integer.MIN_VALUE;

    public static void main(String[] args) {
        Due d = new Due("TextTest");
        type(d);
        bytesInOrder(d);
        items(d);
        blanks(d);
        faults(d);
        faultsOfBytes(d);
        refusedItems(d);
        tooMany(d);
        toldAnew(d);
        refusedChangesNothing(d);
        longest(d);
        d.end();
    }

    private static void type(Due d) {
        TongueTip x = new TongueTip();
        int[] wrong = {0, -1, 9, MAX, MIN};
        for (int n : wrong) {
            d.due("type, wrong", x.type(1, n), -2);
        }
        for (int i = 1; i <= 37; i++) {
            d.due("type", x.type(-1, 8), 8 * i);
        }
        d.due("type, 5 where 4 are left", x.type(-1, 5), -4);
        d.due("type, BAD ahead of FULL", x.type(-1, 9), -2);
        d.due("type to the last byte", x.type(-1, 4), 300);
        d.due("type, full", x.type(-1, 1), -4);
        d.due("bytes", x.count(3), 300);
        d.due("BAD", x.status(0), 6);
        d.due("FULL", x.status(2), 2);
        d.due("clear", x.clear(), 300);
        d.due("clear", x.clear(), 0);
        d.due("bytes", x.count(3), 0);
        d.due("type", x.type(Long.MIN_VALUE, 1), 1);
    }

    private static void bytesInOrder(Due d) {
        TongueTip x = new TongueTip();
        // "here 3;" with a byte above it that is left away, then byte by byte.
        d.due("type", x.type(0x7F68657265203301L >> 8 | 0xFFL << 56, 6), 6);
        d.due("type", x.type(0xFFFFFF3BL, 1), 7);
        d.due("read", x.read(), 1);
        d.due("here", x.put(0, 0), 3);
        x.clear();
        for (char c : "falls 12;".toCharArray()) {
            x.type(c, 1);
        }
        d.due("read", x.read(), 1);
        d.due("falls", x.put(1, 7), 12);
        d.due("THE TEXT stays", x.count(3), 9);
    }

    private static void items(Due d) {
        TongueTip x = new TongueTip();
        d.due("read", Due.read(x, "one rita 2 1 3 12 4;try 4 3 10;ask 1 3;here 5;falls 99;one one 5 0 5 20 9;"), 6);
        d.due("people", x.count(0), 2);
        d.due("tries", x.count(1), 1);
        d.due("questions", x.count(2), 1);
        TongueTip y = new TongueTip();
        y.one(Due.name("rita"), 2, 1, 3, 12, 4);
        y.one(Due.name("one"), 5, 0, 5, 20, 9);
        y.addTry(4, 3, 10);
        y.question(1, 3);
        y.put(0, 5);
        y.put(1, 99);
        x.clear();
        d.due("as told by calls", x.digest(), y.digest());
        d.due("the last of two", Due.read(x, "here 1;falls 3;here 2;falls 4;"), 4);
        d.due("here", x.put(0, 0), 2);
        d.due("falls", x.put(1, 7), 4);
    }

    private static void blanks(Due d) {
        String[] same = {"one rita 2 1 3 12 4;here 5;", "  one   rita   2  1 3 12   4  ;  here 5 ; ",
            "one rita2 1 3 12 4;here5;", "one rita02 01 03 12 04;here05 ;"};
        long digest = 0;
        for (int i = 0; i < same.length; i++) {
            TongueTip x = new TongueTip();
            d.due("read " + same[i], Due.read(x, same[i]), 2);
            x.clear();
            digest = i == 0 ? x.digest() : digest;
            d.due("alike", x.digest(), digest);
        }
        TongueTip x = new TongueTip();
        d.due("empty", x.read(), 0);
        d.due("blanks alone", Due.read(x, "     "), 0);
        d.due("one blank", Due.read(x, " "), 0);
        x.one(Due.name("rita"), 2, 1, 3, 12, 4);
        x.days(1);
        d.due("blanks alone tell nobody", Due.read(x, "  "), 0);
        d.due("nobody", x.count(0), 0);
        d.due("DAY 0", x.count(5), 0);
        d.due("nothing may be undone", x.undo(), -3);
    }

    private static void faults(Due d) {
        TongueTip x = new TongueTip();
        String[] texts = {
            "who;", "onerita 2 1 3 12 4;", "here 1;who 2;", "here 1; who 2;", ";", "here 1;;", "5;", "here;",
            "here here;", "here 1 2;", "one;", "one 5;", "one rita rosa;", "one rita 1 2 3 4;", "one rita 1 2 3 4 5 6;",
            "try 1 2;", "try 1 2 3 4;", "ask 1;", "ask 1 2 3;", "falls;", "falls 1 2;", "try rita;", "here1 try;",
            "her 1;", "heree 1;", "tr 1 2 3;", "One rita 1 2 3 4 5;", "one Rita 1 2 3 4 5;", "here x;",
        };
        int[] at = {
            0, 0, 7, 8, 0, 7, 0, 4,
            5, 7, 3, 4, 9, 16, 19,
            7, 10, 5, 8, 5, 8, 4, 6,
            0, 0, 0, 0, 4, 5,
        };
        for (int i = 0; i < texts.length; i++) {
            d.due("read " + texts[i], Due.read(x, texts[i]), -10 - at[i]);
        }
        String[] nearly = {"ane rita 1 2 3 4 5;", "ont rita 1 2 3 4 5;", "ery 1 2 3;", "tro 1 2 3;", "osk 1 2;", "asks 1 2;",
            "ere 1;", "mere 1;", "hero 1;", "walls 1;", "fall 1;", "fallz 1;", "a", "ones rita 1 2 3 4 5;"};
        for (String text : nearly) {
            d.due("read " + text, Due.read(x, text), -10);
        }
        String[] early = {"here", "here 1", "here 1;on", "one", "one ", "one rita", "one rita 1 2 3 4 5", "try 1 2 3  ",
            "here 1;one ritaritarita 1 1"};
        for (String text : early) {
            boolean word = text.equals("here 1;on");
            d.due("read " + text, Due.read(x, text), -10 - (word ? 7 : text.length()));
        }
        d.due("no fault counts", x.status(0) + x.status(1) + x.status(2), 0);
    }

    private static void faultsOfBytes(Due d) {
        TongueTip x = new TongueTip();
        d.due("three figures", Due.read(x, "here 1;falls 100;"), -10 - 13);
        d.due("three figures", Due.read(x, "falls  007;"), -10 - 7);
        d.due("three figures where none stand", Due.read(x, "  1234"), -10 - 2);
        d.due("long run", Due.read(x, "falls 99999999999999999999999;"), -10 - 6);
        d.due("a sign", Due.read(x, "here -1;"), -10 - 5);
        d.due("a tab", Due.read(x, "here\t1;"), -10 - 4);
        d.due("a tab alone", Due.read(x, "\t"), -10);
        d.due("a newline at the end", Due.read(x, "here 1;\n"), -10 - 7);
        d.due("byte 0", Due.read(x, "here 1;\0"), -10 - 7);
        d.due("byte 255", Due.read(x, "here 1;" + (char) 255), -10 - 7);
        d.due("byte 128", Due.read(x, "here" + (char) 128), -10 - 4);
        d.due("byte behind z", Due.read(x, "here 1;{"), -10 - 7);
        d.due("byte ahead of a", Due.read(x, "here 1;`"), -10 - 7);
        d.due("byte behind 9", Due.read(x, "here :"), -10 - 5);
        d.due("byte ahead of 0", Due.read(x, "here /"), -10 - 5);
        d.due("a byte within a word", Due.read(x, "one ri.ta 1 1 1 1 1;"), -10 - 6);
    }

    private static void refusedItems(Due d) {
        TongueTip x = new TongueTip();
        String[] wrong = {
            "one ritarita 1 1 1 1 1;", "one rita 0 1 1 1 1;", "one rita 6 1 1 1 1;", "one rita 1 6 1 1 1;",
            "one rita 1 1 6 1 1;", "one rita 1 1 1 21 1;", "one rita 1 1 1 1 0;", "one rita 1 1 1 1 10;",
            "try 6 1 1;", "try 0 0 1;", "try 0 21 1;", "try 0 1 0;", "try 0 1 21;", "ask 5 1;", "ask 0 10;",
            "here 6;", "here 99;", "falls 0;", "falls 00;", "one abcdefghijklmnopqrstuvwxyz 1 1 1 1 1;",
        };
        for (String w : wrong) {
            d.due("read " + w, Due.read(x, w), -1000);
            d.due("read behind two " + w, Due.read(x, "here 1;falls 1;" + w + "here 9;"), -1002);
            d.due("a fault goes ahead " + w, Due.read(x, w + "here 9;?"), -10 - w.length() - 7);
        }
        d.due("no ITEM counts", x.status(0) + x.status(1) + x.status(2), 0);
        d.due("seven letters", Due.read(x, "one ritarit 1 1 1 1 1;"), 1);
    }

    private static void tooMany(Due d) {
        TongueTip x = new TongueTip();
        String one = "one a1 1 1 1 1;";
        d.due("12 of PEOPLE", Due.read(x, one.repeat(12)), 12);
        d.due("13 of PEOPLE", Due.read(x, one.repeat(13) + "here 9;"), -1012);
        d.due("5 TRIES", Due.read(x, "try 1 1 1;".repeat(5)), 5);
        d.due("6 TRIES", Due.read(x, "here 1;" + "try 1 1 1;".repeat(6)), -1006);
        d.due("6 QUESTIONS", Due.read(x, "ask 1 1;".repeat(6)), 6);
        d.due("7 QUESTIONS", Due.read(x, "ask 1 1;".repeat(7)), -1006);
        d.due("questions stay", x.count(2), 6);
        d.due("no ITEM counts", x.status(0) + x.status(1) + x.status(2), 0);
    }

    private static void toldAnew(Due d) {
        TongueTip x = new TongueTip();
        fill(x);
        x.image(1);
        x.comes(0, 1);
        x.days(3);
        int refused = x.status(0);
        d.due("read", Due.read(x, "one lea 1 1 1 9 1;"), 1);
        d.due("people", x.count(0), 1);
        d.due("tries", x.count(1), 0);
        d.due("questions", x.count(2), 0);
        d.due("THE TEXT stays", x.count(3), 18);
        d.due("nothing may be undone", x.count(4), 0);
        d.due("undo", x.undo(), -3);
        d.due("DAY 0", x.count(5), 0);
        d.due("told on DAY 0", x.held(0, 6), 9);
        d.fraction("read", x, 3, 10);
        int[] first = {0, 7, 0, 3, 6, 8, 9, 10};
        for (int what = 0; what < 8; what++) {
            d.due("as at first " + what, x.put(what, first[what]), first[what]);
        }
        for (int part = 0; part < 5; part++) {
            d.due("one has nothing", x.has(part, -1), -1);
        }
        d.due("what was refused stays", x.status(0), refused);
        d.due("an IMAGE stays", x.from(1), 1);
        d.due("people of it", x.count(0), 2);
    }

    private static void refusedChangesNothing(Due d) {
        TongueTip x = new TongueTip();
        fill(x);
        x.comes(0, 1);
        String[] wrong = {"one lea 1 1 1 9 1;here 6;", "one lea 1 1 1 9 1;here", "x"};
        for (String w : wrong) {
            Due.text(x, w);
            long digest = x.digest();
            d.due("read is refused", x.read() < 0 ? 1 : 0, 1);
            d.due("nothing changes", x.digest(), digest);
        }
        d.due("may still be undone", x.undo(), 1);
    }

    private static void fill(TongueTip x) {
        x.one(Due.name("rita"), 2, 1, 1, 12, 4);
        x.one(Due.name("rosa"), 2, 1, 1, 12, 4);
        x.addTry(0, 3, 10);
        x.question(1, 3);
        for (int what = 0; what < 8; what++) {
            x.put(what, 5);
        }
        x.put(2, 0);
        for (int part = 0; part < 5; part++) {
            x.has(part, 2);
        }
        x.think(9);
        x.days(1);
        x.days(1);
        x.undo();
        x.undo();
        x.days(1);
    }

    private static void longest(Due d) {
        TongueTip x = new TongueTip();
        d.due("50 ITEMS of 300 bytes", Due.read(x, "here1;".repeat(50)), 50);
        d.due("bytes", x.count(3), 300);
        d.due("the last ITEM is refused", Due.read(x, "here1;".repeat(49) + "here9;"), -1049);
        d.due("the last byte is the FAULT", Due.read(x, "here1;".repeat(49) + "here1x"), -10 - 299);
        d.due("the last ITEM has no end", Due.read(x, "here1;".repeat(49) + "here01"), -10 - 300);
        d.due("a long name", Due.read(x, "one " + "a".repeat(286) + " 1 1 1 1;"), -10 - 298);
        d.due("a longer name", Due.read(x, "one " + "a".repeat(285) + "1 1 1 1 1;"), -1000);
        d.due("letters alone", Due.read(x, "a".repeat(300)), -10);
        d.due("a name up to the end", Due.read(x, "one " + "a".repeat(296)), -10 - 300);
        d.due("blanks alone", Due.read(x, " ".repeat(300)), 0);
    }
}
