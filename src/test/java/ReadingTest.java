/** Promises 25 and 26: free text read for mentions. */
public final class ReadingTest {
    private static final int NONE = NumberKeeper.NONE;
    private static final int RANGE = NumberKeeper.RANGE;

    public static void main(String[] args) {
        Check c = new Check("ReadingTest");
        findings(c);
        whereWordsStand(c);
        longestPart(c);
        meanings(c);
        brackets(c);
        words(c);
        kept(c);
        many(c);
        longBase(c);
        c.finish();
    }

    /** Parts 0 (2, 3), 1 (4): parts below parts, numbered 1.2; notes 5, 6 on 2 and 7 on 4 as 1.1(a). */
    private static CountedKeeper book(Check c, String name) {
        CountedKeeper k = c.fresh(name);
        c.word(0, "Part");
        c.word(1, "Note");
        k.form(0, 0, 0, 1);
        k.form(1, 2, 1, 2);
        k.add(0, NONE, 0);
        k.add(0, NONE, 1);
        k.add(0, 0, 0);
        k.add(0, 0, 1);
        k.add(0, 1, 0);
        k.add(1, 2, 0);
        k.add(1, 2, 1);
        k.add(1, 4, 0);
        return k;
    }

    private static void due(Check c, int in, String text, String... findings) {
        c.due("read of '" + text + "' in " + in, c.read(in, text), findings.length);
        for (int i = 0; i < findings.length; i++) {
            c.due("finding " + i + " of '" + text + "' in " + in, c.finding(i), findings[i]);
        }
        c.due("finding behind", c.keeper.finding(findings.length, 0), -10);
    }

    private static void findings(Check c) {
        CountedKeeper k = book(c, "findings");
        due(c, 0, "");
        due(c, 0, "See Part 1.2, Part 7 and Note 2.1(a).", "4-12 0 1 3", "14-20 0 0 -1", "25-36 1 1 7");
        int[][] none = {{-1, 0}, {3, 0}, {0, 5}, {0, -1}, {Integer.MAX_VALUE, 0}, {Integer.MIN_VALUE, 0},
            {0, Integer.MAX_VALUE}};
        for (int[] n : none) {
            c.due("none such", k.finding(n[0], n[1]), -10);
        }
        c.due("no such thing", c.read(8, "Part 1"), RANGE);
        c.due("none", c.read(NONE, "Part 1"), RANGE);
        c.due("the findings stay", c.finding(2), "25-36 1 1 7");
        k.cut(3);
        c.due("one that is gone", c.read(3, "Part 1"), RANGE);
        due(c, 2, "Part 1.2", "0-6 0 2 0");
        due(c, 2, "");
    }

    private static void whereWordsStand(Check c) {
        book(c, "where words stand");
        due(c, 3, "Part");
        due(c, 3, "Part ");
        due(c, 3, "Part  1");
        due(c, 3, "Part\t1");
        due(c, 3, "Part1");
        due(c, 3, "part 1");
        due(c, 3, "Part -1");
        due(c, 3, "aPart 2");
        due(c, 3, "ZPart 2");
        due(c, 3, "Parts 2");
        due(c, 3, "9Part 2", "1-7 0 2 3");
        due(c, 3, "\u00e4Part 2", "1-7 0 2 3");
        due(c, 3, "(Part 2.1)", "1-9 0 1 4");
        due(c, 3, "Part Part 2", "0-9 0 0 -1");
        due(c, 3, "Part 2Part 2.1", "0-6 0 2 3", "6-14 0 1 4");
        due(c, 5, "Note (a)Note (b)", "0-8 1 1 5", "8-16 1 1 6");
    }

    private static void longestPart(Check c) {
        CountedKeeper k = book(c, "the longest part of the run that means something");
        due(c, 7, "Part 1.2.", "0-8 0 1 3");
        due(c, 7, "Part 1.2x", "0-8 0 1 3");
        due(c, 7, "Part 1.9", "0-6 0 2 0");
        due(c, 7, "Part 9.1) ", "0-9 0 0 -1");
        due(c, 7, "Part 1.2 1", "0-8 0 1 3");
        due(c, 7, "Part 1.2,1", "0-8 0 1 3");
        k.form(0, 1, 0, 0);
        for (int i = 2; i < 10; i++) {
            k.add(0, NONE, i);
        }
        due(c, 7, "Part 10", "0-7 0 1 12");
        due(c, 7, "Part 19", "0-6 0 1 0");
        due(c, 7, "Part 1Part 10", "0-6 0 1 0", "6-13 0 1 12");
    }

    private static void meanings(Check c) {
        CountedKeeper k = book(c, "meanings");
        due(c, 0, "Part 1", "0-6 0 2 0");
        due(c, 1, "Part 2", "0-6 0 1 1");
        due(c, 4, "Part 1", "0-6 0 2 0");
        due(c, 5, "Part 2", "0-6 0 2 3");
        due(c, 2, "Part 2", "0-6 0 2 3");
        // The first by the order is another one than the first by numbers.
        k.move(1, NONE, 0);
        due(c, 5, "Part 2", "0-6 0 2 0");
        due(c, 4, "Part 1", "0-6 0 2 1");
        k.cut(0);
        due(c, 4, "Part 2", "0-6 0 0 -1");
        k.undo();
        k.undo();
        // A thing whose NUMBER and SIGN are both that part counts once.
        k.form(0, 0, 0, 0);
        due(c, 2, "Part 2", "0-6 0 2 3");
        due(c, 2, "Part 1", "0-6 0 3 0");
    }

    private static void brackets(Check c) {
        CountedKeeper k = book(c, "signs in brackets");
        due(c, 2, "Note (b)", "0-8 1 1 6");
        due(c, 6, "Note (b)", "0-8 1 1 6");
        due(c, 2, "Note b", "0-6 1 0 -1");
        due(c, 0, "Note (b)", "0-8 1 0 -1");
        due(c, 4, "Note (b)", "0-8 1 0 -1");
        due(c, 4, "Note (a)(b)", "0-8 1 1 7");
        due(c, 0, "Note 1.1(b)", "0-11 1 1 6");
        k.form(1, 2, 1, 1);
        due(c, 2, "Note b", "0-6 1 1 6");
        due(c, 2, "Note (b)", "0-8 1 0 -1");
        due(c, 0, "Note 1.1.b", "0-10 1 1 6");
        // Without a BASE nothing but the NUMBER means it.
        k.form(1, 7, 1, 2);
        due(c, 2, "Note (c)", "0-8 1 1 7");
        due(c, 2, "Note c", "0-6 1 0 -1");
    }

    private static void words(Check c) {
        CountedKeeper k = book(c, "words");
        c.word(2, "Part");
        k.add(2, NONE, 2);
        k.add(2, NONE, 3);
        k.add(2, NONE, 4);
        due(c, 8, "Part 3", "0-6 0 0 -1");
        due(c, 8, "Part 2", "0-6 0 1 1");
        c.word(0, "Par");
        due(c, 8, "Part 3 Par 2", "0-6 2 1 10", "7-12 0 1 1");
        c.word(2, "");
        due(c, 8, "Part 3 3");
        due(c, 8, " 3");
    }

    private static void kept(Check c) {
        CountedKeeper k = book(c, "findings are kept as they were");
        due(c, 0, "Part 1.2", "0-8 0 1 3");
        k.cut(0);
        c.word(0, "Teil");
        c.due("finding", c.finding(0), "0-8 0 1 3");
        k.edition();
        c.old(0, 0, "1");
        c.due("finding", c.finding(0), "0-8 0 1 3");
    }

    private static void many(Check c) {
        CountedKeeper k = c.fresh("more than 40 findings");
        c.word(0, "P");
        k.add(0, NONE, 0);
        StringBuilder text = new StringBuilder();
        for (int i = 0; i < 200; i++) {
            text.append("P 1");
        }
        c.due("read", c.read(0, text.toString()), 200);
        c.due("the last one told", c.finding(39), "117-120 0 1 0");
        for (int what = 0; what < 5; what++) {
            c.due("one that is not told", k.finding(40, what), -10);
            c.due("one that is not told", k.finding(199, what), -10);
        }
        StringBuilder run = new StringBuilder("P ");
        while (run.length() < 600) {
            run.append('2');
        }
        c.due("one long run", c.read(0, run.toString()), 1);
        c.due("to its end", c.finding(0), "0-600 0 0 -1");
    }

    private static void longBase(Check c) {
        CountedKeeper k = c.fresh("a base with too long a number is none in reading, too");
        c.word(1, "N");
        k.form(0, 0, 0, 2);
        k.form(1, 0, 1, 0);
        int on = NONE;
        for (int x = 0; x < 11; x++) {
            on = k.add(0, on, 0);
        }
        k.form(1, 0, 1, 1);
        k.add(1, 9, 1);
        k.add(1, 10, 0);
        k.add(1, 10, 1);
        due(c, 10, "N b", "0-3 1 1 13");
        due(c, 10, "N a", "0-3 1 2 12");
    }
}
