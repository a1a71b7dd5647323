/** The boundary cases of promises 1 to 5 and 27: each part bears the sentence that it tests. */
public final class TapeAndFormEdgesTest {
    private static final int NONE = NumberKeeper.NONE;
    private static final int RANGE = NumberKeeper.RANGE;
    private static final int FULL = NumberKeeper.FULL;
    private static final int LEAST = Integer.MIN_VALUE;
    private static final int MOST = Integer.MAX_VALUE;

    public static void main(String[] args) {
        Check c = new Check("TapeAndFormEdgesTest");
        newObjectTells(c);
        newObjectRefuses(c);
        newObjectTakes(c);
        constants(c);
        fullTape(c);
        tapeOverFull(c);
        highestByteFirst(c);
        endOfTape(c);
        readTapeIsEmpty(c);
        readTapeIsEmptyWhenRefused(c);
        othersLeaveTape(c);
        kindsOfWords(c);
        lengthsOfWords(c);
        lettersOfWords(c);
        refusedWordsChangeNothing(c);
        emptyWord(c);
        formsAtFirst(c);
        formArguments(c);
        refusedFormsChangeNothing(c);
        countsOfForms(c);
        countsOfOthers(c);
        lastPromisedCall(c);
        c.finish();
    }

    private static void newObjectTells(Check c) {
        CountedKeeper k = c.fresh("1: A text without THINGS, asked");
        c.due("counts", c.counts(), "0 0 0 0 0 0");
        c.due("at 0", k.at(0), NONE);
        c.due("thing 0", c.thing(0), "-10 -10 -10 -10 -10 -10 -10 -10 -10");
        c.due("told 0", k.told(0, 0), NONE);
        c.due("twins", k.twins(), 0);
        c.due("about 0", c.about(0), "-10 -10 -10 -10 -10 -10");
        c.due("text 0", k.text(0, 0), NONE);
        c.due("trouble", k.trouble(), 0);
        c.due("finding 0", c.finding(0), "-10--10 -10 -10 -10");
        c.due("end 0", k.end(0), 0);
        c.due("end 1", k.end(1), NONE);
        c.due("undo", k.undo(), NONE);
    }

    private static void newObjectRefuses(Check c) {
        CountedKeeper k = c.fresh("1: A text without THINGS, where a THING is wanted");
        c.due("add", k.add(0, 0, 0), RANGE);
        c.due("add as the second", k.add(0, NONE, 1), RANGE);
        c.due("move", k.move(0, NONE, 0), RANGE);
        c.due("move of the text", k.move(NONE, NONE, 0), RANGE);
        c.due("cut", k.cut(0), RANGE);
        c.due("cut of the text", k.cut(NONE), RANGE);
        c.due("join", k.join(0, 1), RANGE);
        c.due("mention", k.mention(0, 0, 0), RANGE);
        c.due("mention in the text", k.mention(NONE, 2, 0), RANGE);
        c.due("range", k.range(0, 0, 0, 0), RANGE);
        c.due("frozen", k.frozen(0, 0, 0), RANGE);
        c.due("old", k.old(0, 0), RANGE);
        c.due("leads", k.leads(0, 0), RANGE);
        c.due("changed", k.changed(0), RANGE);
        c.due("read", k.read(0), RANGE);
        c.due("read in the text", k.read(NONE), RANGE);
        c.due("counts", c.counts(), "0 0 0 0 0 0");
    }

    private static void newObjectTakes(Check c) {
        CountedKeeper k = c.fresh("1: A text without THINGS, and its first of all");
        c.due("edition", k.edition(), 0);
        c.due("changed", k.changed(0), 0);
        c.due("old", k.old(0, 0), NONE);
        c.due("leads", k.leads(0, 0), RANGE);
        c.due("add", k.add(0, NONE, 0), 0);
        c.due("the edition had none", k.leads(0, 0), RANGE);
        c.due("the edition had none", k.frozen(0, 0, 0), RANGE);
        c.due("changed", k.changed(0), 0);
        c.due("at 0", k.at(0), 0);
        c.due("at 1", k.at(1), NONE);
    }

    private static void constants(Check c) {
        c.fresh("the constants");
        c.due("NONE", NumberKeeper.NONE, -1);
        c.due("RANGE", NumberKeeper.RANGE, -2);
        c.due("FULL", NumberKeeper.FULL, -3);
    }

    private static void fullTape(Check c) {
        CountedKeeper k = c.fresh("2: how many it has; FULL when there would be more than 600");
        for (int n = 20; n <= 600; n += 20) {
            c.due("feed", k.feed(1, 2, 3, 4, 5), n);
        }
        c.due("feed at 600", k.feed(1, 2, 3, 4, 5), FULL);
        c.due("it has", k.count(5), 600);
        c.due("end 599", k.end(599), 599);
        c.due("feed at 599", k.feed(1, 2, 3, 4, 5), FULL);
        c.due("end 581", k.end(581), 581);
        c.due("feed at 581", k.feed(1, 2, 3, 4, 5), FULL);
        c.due("it still has", k.count(5), 581);
        c.due("end 580", k.end(580), 580);
        c.due("feed at 580", k.feed(1, 2, 3, 4, 5), 600);
        c.due("end 0", k.end(0), 0);
        c.due("feed at 0", k.feed(1, 2, 3, 4, 5), 20);
    }

    private static void tapeOverFull(Check c) {
        CountedKeeper k = c.fresh("2: a feed that is refused leaves THE TAPE as it is");
        c.word(0, "P");
        k.add(0, NONE, 0);
        StringBuilder text = new StringBuilder();
        while (text.length() < 597) {
            text.append('-');
        }
        text.append("P 1");
        c.tape(text.toString());
        c.due("feed", k.feed(0x2d2d2d2d, 0x2d2d2d2d, 0x2d2d2d2d, 0x2d2d2d2d, 0x2d2d2d2d), FULL);
        c.due("read", k.read(0), 1);
        c.due("the last of its 600 bytes", c.finding(0), "597-600 0 1 0");
    }

    private static void highestByteFirst(Check c) {
        CountedKeeper k = c.fresh("2: Twenty bytes come behind THE TAPE, the highest of each int first");
        c.word(0, "P");
        k.add(0, NONE, 0);
        // Bytes of 128 and more, where an int's highest bit is set, are bytes like others.
        k.feed(0xff50_2031, 0x80502031, 0xfe502031, 0x81502031, 0xf0502031);
        c.due("read", k.read(0), 5);
        for (int i = 0; i < 5; i++) {
            c.due("int " + i, c.finding(i), (4 * i + 1) + "-" + (4 * i + 4) + " 0 1 0");
        }
        k.feed(0x2020502d, 0, 0, 0, 0x2d2d2d50);
        k.feed(0x20312d2d, 0, 0, 0, 0);
        c.due("over two feeds", k.read(0), 1);
        c.due("over two feeds", c.finding(0), "19-22 0 1 0");
    }

    private static void endOfTape(Check c) {
        CountedKeeper k = c.fresh("3: NONE when it has not so many, or n is below 0");
        c.due("0 of 0", k.end(0), 0);
        c.due("1 of 0", k.end(1), NONE);
        k.feed(0, 0, 0, 0, 0);
        c.due("21 of 20", k.end(21), NONE);
        c.due("-1", k.end(-1), NONE);
        c.due("the least", k.end(LEAST), NONE);
        c.due("the most", k.end(MOST), NONE);
        c.due("nothing is lost", k.count(5), 20);
        c.due("20 of 20", k.end(20), 20);
        c.due("19 of 20", k.end(19), 19);
        c.due("20 of 19", k.end(20), NONE);
        c.due("1 of 19", k.end(1), 1);
        c.due("0 of 1", k.end(0), 0);
        c.due("none is left", k.count(5), 0);
        c.due("1 of 0", k.end(1), NONE);

        k = c.fresh("3: THE TAPE has its first n bytes alone");
        k.feed('P' << 24 | 'a' << 16 | 'r' << 8 | 't', 0, 0, 0, 0);
        k.end(3);
        k.feed('X' << 24 | 'Y' << 16, 0, 0, 0, 0);
        k.end(5);
        c.due("word", k.word(0), 5);
        k.add(0, NONE, 0);
        c.due("told", c.told(0), "ParXY 1");
    }

    private static void readTapeIsEmpty(Check c) {
        CountedKeeper k = c.fresh("each call that reads THE TAPE empties it: what is taken");
        k.add(0, NONE, 0);
        k.edition();
        c.due("word", c.word(0, "Part"), 4);
        c.due("tape", k.count(5), 0);
        c.due("no word again", k.word(0), 0);
        c.due("old", c.old(0, 0, "1"), 0);
        c.due("tape", k.count(5), 0);
        c.due("no number again", k.old(0, 0), NONE);
        c.word(0, "Part");
        c.due("read", c.read(0, "Part 1"), 1);
        c.due("tape", k.count(5), 0);
        c.due("nothing to read again", k.read(0), 0);
        c.due("old that finds none", c.old(0, 0, "7"), NONE);
        c.due("tape", k.count(5), 0);
        c.due("read that finds none", c.read(0, "Nothing"), 0);
        c.due("tape", k.count(5), 0);
    }

    private static void readTapeIsEmptyWhenRefused(Check c) {
        CountedKeeper k = c.fresh("each call that reads THE TAPE empties it: RANGE");
        k.add(0, NONE, 0);
        k.edition();
        c.due("no such word", c.word(0, "Part 1"), RANGE);
        c.due("tape", k.count(5), 0);
        c.due("no such kind", c.word(6, "Part"), RANGE);
        c.due("tape", k.count(5), 0);
        c.due("no such edition", c.old(1, 0, "1"), RANGE);
        c.due("tape", k.count(5), 0);
        c.due("no such kind", c.old(0, 6, "1"), RANGE);
        c.due("tape", k.count(5), 0);
        c.due("no such thing", c.read(1, "Part 1"), RANGE);
        c.due("tape", k.count(5), 0);
    }

    private static void othersLeaveTape(Check c) {
        CountedKeeper k = c.fresh("calls that do not read THE TAPE leave it");
        c.tape("Part");
        k.form(0, 0, 0, 0);
        k.add(0, NONE, 0);
        k.add(0, NONE, 1);
        k.add(0, NONE, 2);
        k.move(0, NONE, 1);
        k.join(1, 0);
        k.cut(2);
        k.undo();
        k.edition();
        k.mention(1, 0, 1);
        k.range(1, 0, 0, 1);
        k.frozen(1, 1, 0);
        k.leads(0, 1);
        k.changed(0);
        k.trouble();
        k.twins();
        k.finding(0, 0);
        k.thing(0, 0);
        k.at(0);
        k.told(0, 0);
        k.about(0, 0);
        k.text(0, 0);
        k.end(5);
        c.due("tape", k.count(5), 4);
        c.due("word", k.word(0), 4);
        c.due("told", c.told(1), "Part 1");
    }

    private static void kindsOfWords(Check c) {
        CountedKeeper k = c.fresh("4: RANGE: no such KIND");
        c.due("0", c.word(0, "A"), 1);
        c.due("5", c.word(5, "Bc"), 2);
        int[] none = {-1, 6, 7, LEAST, MOST};
        for (int kind : none) {
            c.due("kind " + kind, c.word(kind, "Def"), RANGE);
        }
        int[] letters = {1, 0, 0, 0, 0, 2};
        for (int kind = 0; kind < 6; kind++) {
            c.due("letters of " + kind, k.count(40 + kind), letters[kind]);
        }
    }

    private static void lengthsOfWords(Check c) {
        CountedKeeper k = c.fresh("4: a WORD of 0 .. 10 letters");
        c.due("none", c.word(0, ""), 0);
        c.due("1", c.word(1, "a"), 1);
        c.due("9", c.word(2, "abcdefghi"), 9);
        c.due("10", c.word(3, "abcdefghij"), 10);
        c.due("11", c.word(4, "abcdefghijk"), RANGE);
        c.due("20", c.word(4, "abcdefghijabcdefghij"), RANGE);
        StringBuilder most = new StringBuilder();
        while (most.length() < 600) {
            most.append('z');
        }
        c.due("600", c.word(4, most.toString()), RANGE);
        c.due("none of 11", k.count(44), 0);
        k.add(3, NONE, 0);
        c.due("told with 10", c.told(0), "abcdefghij 1");
        c.due("byte 9", k.told(0, 9), 'j');
        c.due("byte 10", k.told(0, 10), ' ');
    }

    /** Each byte alone is a word if it is a letter, and none if it is not. */
    private static void lettersOfWords(Check c) {
        for (int from = 0; from < 256; from += 64) {
            c.fresh("4: letters (A .. Z, a .. z)");
            for (int b = from; b < from + 64; b++) {
                boolean isLetter = "ABCDEFGHIJKLMNOPQRSTUVWXYZabcdefghijklmnopqrstuvwxyz".indexOf(b) >= 0;
                c.due("byte " + b, c.word(0, String.valueOf((char) b)), isLetter ? 1 : RANGE);
            }
        }
        c.fresh("4: no such WORD, by one byte of it");
        c.due("the first", c.word(0, "1bcdefghij"), RANGE);
        c.due("in the midst", c.word(0, "abcd fghij"), RANGE);
        c.due("the last", c.word(0, "abcdefghi."), RANGE);
        c.due("all letters", c.word(0, "AZazMmNnXx"), 10);
    }

    private static void refusedWordsChangeNothing(Check c) {
        CountedKeeper k = c.fresh("4: a word that is refused leaves the old one");
        k.add(0, NONE, 0);
        c.word(0, "Part");
        c.word(0, "abcdefghijk");
        c.due("told", c.told(0), "Part 1");
        c.word(0, "a1");
        c.due("told", c.told(0), "Part 1");
        c.due("letters", k.count(40), 4);
    }

    private static void emptyWord(Check c) {
        CountedKeeper k = c.fresh("4: a WORD of 0 letters is none");
        k.add(0, NONE, 0);
        c.word(0, "Part");
        c.due("told with", c.told(0), "Part 1");
        c.due("empty", k.word(0), 0);
        c.due("told without", c.told(0), "1");
        c.due("letters", k.count(40), 0);
    }

    private static void formsAtFirst(Check c) {
        CountedKeeper k = c.fresh("a WORD (none at first), a SCOPE, a STYLE, a JOIN (all 0 at first)");
        for (int kind = 0; kind < 6; kind++) {
            for (int what = 10; what <= 40; what += 10) {
                c.due("count " + (what + kind), k.count(what + kind), 0);
            }
            k.add(kind, NONE, kind);
            k.add(kind, kind == 0 ? 0 : 2 * kind, 0);
            c.due("the first of kind " + kind, c.told(2 * kind), "1");
            c.due("one on it", c.told(2 * kind + 1), "1");
        }
    }

    private static void formArguments(Check c) {
        CountedKeeper k = c.fresh("5: SCOPE 0 .. 7, STYLE 0 .. 4, JOIN 0 .. 2: 1; RANGE");
        int[] most = {5, 7, 4, 2};
        for (int place = 0; place < most.length; place++) {
            for (int value = 0; value <= most[place]; value++) {
                int[] a = new int[4];
                a[place] = value;
                c.due("argument " + place + " " + value, k.form(a[0], a[1], a[2], a[3]), 1);
            }
            int[] none = {-1, most[place] + 1, LEAST, MOST};
            for (int value : none) {
                int[] a = new int[4];
                a[place] = value;
                c.due("argument " + place + " " + value, k.form(a[0], a[1], a[2], a[3]), RANGE);
            }
        }
        c.due("all at their most", k.form(5, 7, 4, 2), 1);
        c.due("all at their least", k.form(0, 0, 0, 0), 1);
    }

    private static void refusedFormsChangeNothing(Check c) {
        CountedKeeper k = c.fresh("5: a form that is refused changes nothing");
        k.form(3, 6, 3, 2);
        int[][] wrong = {{3, 8, 1, 1}, {3, 1, 5, 1}, {3, 1, 1, 3}, {3, -1, 1, 1}, {3, 1, -1, 1}, {3, 1, 1, -1}};
        for (int[] w : wrong) {
            c.due("form", k.form(w[0], w[1], w[2], w[3]), RANGE);
            c.due("scope", k.count(13), 6);
            c.due("style", k.count(23), 3);
            c.due("join", k.count(33), 2);
        }
        c.due("it is no change", k.count(4), 0);
    }

    private static void countsOfForms(Check c) {
        CountedKeeper k = c.fresh("27: 10 + k, 20 + k, 30 + k, 40 + k");
        for (int kind = 0; kind < 6; kind++) {
            k.form(kind, kind + 2, kind % 5, kind % 3);
            c.word(kind, "abcdefghij".substring(0, kind + 5));
        }
        for (int kind = 0; kind < 6; kind++) {
            c.due("scope of " + kind, k.count(10 + kind), kind + 2);
            c.due("style of " + kind, k.count(20 + kind), kind % 5);
            c.due("join of " + kind, k.count(30 + kind), kind % 3);
            c.due("letters of " + kind, k.count(40 + kind), kind + 5);
        }
    }

    private static void countsOfOthers(Check c) {
        CountedKeeper k = c.fresh("27: NONE for others");
        for (int what = -50; what < 0; what++) {
            c.due("count " + what, k.count(what), NONE);
        }
        for (int what = 6; what < 120; what++) {
            boolean isForm = what >= 10 && what <= 45 && what % 10 < 6;
            c.due("count " + what, k.count(what), isForm ? 0 : NONE);
        }
        int[] far = {LEAST, LEAST + 1, MOST, MOST - 1, 1 << 16, 256 + 10, -(1 << 16), 1000000010};
        for (int what : far) {
            c.due("count " + what, k.count(what), NONE);
        }
    }

    private static void lastPromisedCall(Check c) {
        CountedKeeper k = c.fresh("An object is used for at most 512 calls");
        while (k.left() > 3) {
            k.feed(1, 2, 3, 4, 5);
        }
        c.due("the 510th", k.count(5), 600);
        c.due("the 511th", k.add(0, NONE, 0), 0);
        c.due("the 512th", k.told(0, 0), '1');
    }
}
