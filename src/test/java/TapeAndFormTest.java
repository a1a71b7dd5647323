/** Promises 1 to 5 and 27: a new object, the tape, words and forms, the counts. */
public final class TapeAndFormTest {
    private static final int NONE = NumberKeeper.NONE;
    private static final int RANGE = NumberKeeper.RANGE;
    private static final int FULL = NumberKeeper.FULL;

    public static void main(String[] args) {
        Check c = new Check("TapeAndFormTest");
        newObject(c);
        tape(c);
        words(c);
        forms(c);
        tapeIsEmptiedByReading(c);
        counts(c);
        c.finish();
    }

    private static void newObject(Check c) {
        CountedKeeper k = c.fresh("a new object");
        for (int what = 0; what <= 5; what++) {
            c.due("count " + what, k.count(what), 0);
        }
        for (int tens = 10; tens <= 40; tens += 10) {
            for (int kind = 0; kind < 6; kind++) {
                c.due("count " + (tens + kind), k.count(tens + kind), 0);
            }
        }
        c.due("at", k.at(0), NONE);
        c.due("thing", k.thing(0, 0), -10);
        c.due("told", k.told(0, 0), NONE);
        c.due("twins", k.twins(), 0);
        c.due("trouble", k.trouble(), 0);
        c.due("undo", k.undo(), NONE);
        c.due("about", k.about(0, 0), -10);
        c.due("text", k.text(0, 0), NONE);
        c.due("finding", k.finding(0, 0), -10);
        c.due("changed", k.changed(0), RANGE);
    }

    private static void tape(Check c) {
        CountedKeeper k = c.fresh("feed and end");
        for (int n = 20; n <= 600; n += 20) {
            c.due("feed to " + n, k.feed(1, 2, 3, 4, 5), n);
        }
        c.due("feed beyond", k.feed(1, 2, 3, 4, 5), FULL);
        c.due("count", k.count(5), 600);
        c.due("end 601", k.end(601), NONE);
        c.due("end -1", k.end(-1), NONE);
        c.due("end least", k.end(Integer.MIN_VALUE), NONE);
        c.due("end most", k.end(Integer.MAX_VALUE), NONE);
        c.due("end 600", k.end(600), 600);
        c.due("end 581", k.end(581), 581);
        c.due("feed at 581", k.feed(0, 0, 0, 0, 0), FULL);
        c.due("end 580", k.end(580), 580);
        c.due("feed at 580", k.feed(0, 0, 0, 0, 0), 600);
        c.due("end 7", k.end(7), 7);
        c.due("end 8", k.end(8), NONE);
        c.due("feed at 7", k.feed(0, 0, 0, 0, 0), 27);
        c.due("end 0", k.end(0), 0);

        c.fresh("the highest byte comes first");
        c.keeper.feed('A' << 24 | 'b' << 16 | 'C' << 8 | 'd', 'E' << 24 | 'f' << 16, 0, 0, 0);
        c.keeper.end(6);
        c.due("word", c.keeper.word(2), 6);
        c.keeper.add(2, NONE, 0);
        c.due("told", c.told(0), "AbCdEf 1");
    }

    private static void words(Check c) {
        CountedKeeper k = c.fresh("word");
        c.due("one letter", c.word(0, "A"), 1);
        c.due("ten letters", c.word(5, "abcdefXYZz"), 10);
        c.due("eleven letters", c.word(5, "abcdefXYZza"), RANGE);
        c.due("it stays", k.count(45), 10);
        String[] none = {"Sec1", "a b", " a", "a-", "@", "[", "`", "{", "\u00e4", "\u0000"};
        for (String word : none) {
            c.due("no word " + word, c.word(5, word), RANGE);
        }
        c.due("it stays still", k.count(45), 10);
        c.due("edges", c.word(4, "AZaz"), 4);
        c.due("kind 6", c.word(6, "Part"), RANGE);
        c.due("kind -1", c.word(-1, "Part"), RANGE);
        c.due("no letter", c.word(5, ""), 0);
        c.due("no word then", k.count(45), 0);
        k.add(0, NONE, 0);
        k.add(5, NONE, 1);
        c.due("with a word", c.told(0), "A 1");
        c.due("without", c.told(1), "1");
        k.form(0, 3, 2, 1);
        c.word(0, "Xy");
        c.due("a word leaves scope, style, join", k.count(10) * 100 + k.count(20) * 10 + k.count(30), 321);
        k.form(0, 0, 0, 0);
        c.due("another word", c.told(0), "Xy 1");
    }

    private static void forms(Check c) {
        CountedKeeper k = c.fresh("form");
        c.due("most", k.form(5, 7, 4, 2), 1);
        int[][] wrong = {{6, 0, 0, 0}, {-1, 0, 0, 0}, {5, 8, 0, 0}, {5, -1, 0, 0}, {5, 0, 5, 0}, {5, 0, -1, 0},
            {5, 0, 0, 3}, {5, 0, 0, -1}};
        for (int[] w : wrong) {
            c.due("wrong form", k.form(w[0], w[1], w[2], w[3]), RANGE);
        }
        c.due("scope stays", k.count(15), 7);
        c.due("style stays", k.count(25), 4);
        c.due("join stays", k.count(35), 2);
        c.due("least", k.form(5, 0, 0, 0), 1);
        c.due("scope", k.count(15), 0);
        k.form(1, 3, 2, 1);
        c.due("scope of 1", k.count(11), 3);
        c.due("style of 1", k.count(21), 2);
        c.due("join of 1", k.count(31), 1);
        c.due("other kinds", k.count(10) + k.count(12) + k.count(20) + k.count(32), 0);
    }

    private static void tapeIsEmptiedByReading(Check c) {
        CountedKeeper k = c.fresh("each call that reads the tape empties it");
        k.add(0, NONE, 0);
        k.edition();
        int[] after = new int[7];
        c.word(0, "Part");
        after[0] = k.count(5);
        c.word(0, "P 1");
        after[1] = k.count(5);
        c.word(9, "Part");
        after[2] = k.count(5);
        c.old(0, 0, "1");
        after[3] = k.count(5);
        c.old(7, 0, "1");
        after[4] = k.count(5);
        c.read(0, "Part 1");
        after[5] = k.count(5);
        c.read(9, "Part 1");
        after[6] = k.count(5);
        for (int i = 0; i < after.length; i++) {
            c.due("tape after reading " + i, after[i], 0);
        }
        c.tape("Part");
        k.add(0, NONE, 0);
        k.form(0, 0, 0, 0);
        c.due("others leave it", k.count(5), 4);
    }

    private static void counts(Check c) {
        CountedKeeper k = c.fresh("count");
        k.add(0, NONE, 0);
        k.add(0, 0, 0);
        k.add(0, 1, 0);
        k.mention(0, 0, 1);
        k.edition();
        k.edition();
        k.cut(1);
        c.tape("abc");
        int[] want = {3, 1, 1, 2, 4, 3};
        for (int what = 0; what < want.length; what++) {
            c.due("count " + what, k.count(what), want[what]);
        }
        k.undo();
        c.due("there again", k.count(1), 3);
        c.due("log", k.count(4), 3);
        int[] none = {-1, 6, 7, 8, 9, 16, 19, 26, 36, 46, 50, 55, -10, 100, 110, 1010, Integer.MAX_VALUE,
            Integer.MIN_VALUE};
        for (int what : none) {
            c.due("count " + what, k.count(what), NONE);
        }
    }
}
