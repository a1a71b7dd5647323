/** Promises 15 to 20: mentions, what they lead to and what they say. */
public final class MentionTest {
    private static final int NONE = NumberKeeper.NONE;
    private static final int RANGE = NumberKeeper.RANGE;
    private static final int FULL = NumberKeeper.FULL;
    private static final int LEAST = Integer.MIN_VALUE;
    private static final int MOST = Integer.MAX_VALUE;

    public static void main(String[] args) {
        Check c = new Check("MentionTest");
        ofThings(c);
        ofKinds(c);
        inOnesThatGo(c);
        ranges(c);
        runs(c);
        longRange(c);
        rangesOfGoneAndJoined(c);
        frozen(c);
        trouble(c);
        full(c);
        c.finish();
    }

    /** Chapters 0 (2 .. 5), 1 (6, 7): sections below them, numbered chapter.section. */
    private static CountedKeeper book(Check c, String name) {
        CountedKeeper k = c.fresh(name);
        c.word(0, "Chapter");
        c.word(1, "Section");
        k.form(1, 0, 0, 1);
        k.add(0, NONE, 0);
        k.add(0, NONE, 1);
        for (int i = 0; i < 4; i++) {
            k.add(1, 0, i);
        }
        k.add(1, 1, 0);
        k.add(1, 1, 1);
        return k;
    }

    private static void due(Check c, String what, int m, int[] about, String text) {
        for (int i = 0; i < about.length; i++) {
            c.due(what + ", about " + i, c.keeper.about(m, i), about[i]);
        }
        c.due(what + ", text", c.text(m), text);
    }

    private static void ofThings(Check c) {
        CountedKeeper k = book(c, "mention of a thing");
        int[][] wrong = {{-1, 0, 1}, {8, 0, 1}, {0, 0, 8}, {0, 0, -1}, {0, 1, 1}, {0, 4, 1}, {0, -1, 1}, {0, 5, 1},
            {MOST, 0, 0}, {0, LEAST, 0}, {0, 0, MOST}};
        for (int[] w : wrong) {
            c.due("wrong mention", k.mention(w[0], w[1], w[2]), RANGE);
        }
        c.due("number", k.mention(0, 0, 7), 0);
        c.due("of itself", k.mention(7, 0, 7), 1);
        due(c, "made", 0, new int[] {0, 0, 7, 1, 0}, "Section 2.2");
        k.move(7, 0, 0);
        due(c, "moved", 0, new int[] {0, 0, 7, 1, 0}, "Section 1.1");
        c.word(1, "");
        due(c, "without a word", 0, new int[] {0, 0, 7, 1, 0}, "1.1");
        k.cut(7);
        due(c, "gone", 0, new int[] {0, 0, NONE, 0, 1}, "");
        c.due("byte of no text", k.text(0, 0), NONE);
        due(c, "in a gone one", 1, new int[] {0, 7, NONE, 0, 1}, "");
        c.due("of a gone one", k.mention(0, 0, 7), RANGE);
        c.due("in a gone one", k.mention(7, 0, 0), RANGE);
        k.undo();
        due(c, "again", 0, new int[] {0, 0, 7, 1, 0}, "1.1");
        int[][] none = {{0, 6}, {0, -1}, {2, 0}, {-1, 0}, {MOST, 0}, {LEAST, 0}, {0, MOST}};
        for (int[] n : none) {
            c.due("about none", k.about(n[0], n[1]), -10);
        }
        c.due("byte", k.text(0, 1), '.');
        c.due("byte behind", k.text(0, 3), NONE);
        c.due("byte ahead", k.text(0, -1), NONE);
        c.due("byte of none", k.text(2, 0), NONE);
        c.due("byte of none", k.text(-1, 0), NONE);
        k.join(2, 3);
        c.due("of a joined one", k.mention(0, 0, 3), RANGE);
    }

    private static void ofKinds(Check c) {
        CountedKeeper k = book(c, "the next and the latest one");
        c.due("kind 6", k.mention(3, 2, 6), RANGE);
        c.due("kind -1", k.mention(3, 3, -1), RANGE);
        c.due("next section", k.mention(3, 2, 1), 0);
        c.due("latest section", k.mention(3, 3, 1), 1);
        c.due("next chapter", k.mention(3, 2, 0), 2);
        c.due("latest chapter", k.mention(3, 3, 0), 3);
        c.due("of a kind that is none", k.mention(3, 2, 5), 4);
        c.due("from a chapter on", k.mention(0, 2, 1), 5);
        c.due("ahead of all", k.mention(0, 3, 0), 6);
        due(c, "next section", 0, new int[] {2, 3, 4, 1, 0}, "Section 1.3");
        due(c, "latest section", 1, new int[] {3, 3, 2, 1, 0}, "Section 1.1");
        due(c, "next chapter", 2, new int[] {2, 3, 1, 1, 0}, "Chapter 2");
        due(c, "what it hangs on", 3, new int[] {3, 3, 0, 1, 0}, "Chapter 1");
        due(c, "none", 4, new int[] {2, 3, NONE, 0, 0}, "");
        due(c, "what hangs on it", 5, new int[] {2, 0, 2, 1, 0}, "Section 1.1");
        due(c, "not itself", 6, new int[] {3, 0, NONE, 0, 0}, "");
        k.move(3, 1, 1);
        due(c, "next section from there", 0, new int[] {2, 3, 7, 1, 0}, "Section 2.3");
        due(c, "latest section from there", 1, new int[] {3, 3, 6, 1, 0}, "Section 2.1");
        due(c, "no next chapter", 2, new int[] {2, 3, NONE, 0, 0}, "");
        due(c, "latest chapter from there", 3, new int[] {3, 3, 1, 1, 0}, "Chapter 2");
        k.add(5, NONE, 2);
        due(c, "one now", 4, new int[] {2, 3, 8, 1, 0}, "1");
        k.cut(3);
        due(c, "in a gone one", 0, new int[] {2, 3, NONE, 0, 0}, "");
    }

    private static void inOnesThatGo(Check c) {
        CountedKeeper k = book(c, "mentions in things that go");
        k.mention(4, 0, 6);
        k.mention(4, 3, 1);
        k.join(3, 4);
        due(c, "in the joined one", 0, new int[] {0, 3, 6, 1, 0}, "Section 2.1");
        due(c, "from its place", 1, new int[] {3, 3, 2, 1, 0}, "Section 1.1");
        k.join(2, 3);
        due(c, "and so on", 0, new int[] {0, 2, 6, 1, 0}, "Section 2.1");
        due(c, "from there", 1, new int[] {3, 2, NONE, 0, 0}, "");
        k.cut(2);
        due(c, "gone at last", 0, new int[] {0, 2, 6, 0, 0}, "");
        c.due("no trouble in gone ones", k.trouble(), 0);
        k.undo();
        k.undo();
        k.undo();
        due(c, "undone", 0, new int[] {0, 4, 6, 1, 0}, "Section 2.1");
        due(c, "undone", 1, new int[] {3, 4, 3, 1, 0}, "Section 1.2");

        k = book(c, "mentions of things that are joined");
        k.mention(0, 0, 4);
        k.join(3, 4);
        due(c, "joined", 0, new int[] {0, 0, 3, 1, 0}, "Section 1.2");
        k.join(2, 3);
        due(c, "twice", 0, new int[] {0, 0, 2, 1, 0}, "Section 1.1");
        k.cut(2);
        due(c, "and cut", 0, new int[] {0, 0, NONE, 0, 1}, "");
    }

    private static void ranges(Check c) {
        CountedKeeper k = book(c, "range");
        // The order: 0 2 3 4 5 1 6 7.
        int[][] wrong = {{-1, 1, 0, 7}, {8, 1, 0, 7}, {0, -1, 0, 7}, {0, 6, 0, 7}, {0, 1, -1, 7}, {0, 1, 0, 8},
            {0, 1, 7, 0}, {0, 1, 1, 1}, {0, 2, 0, 7}, {0, 0, 1, 5}, {0, 1, LEAST, MOST}, {MOST, 1, 0, 7}};
        for (int[] w : wrong) {
            c.due("wrong range", k.range(w[0], w[1], w[2], w[3]), RANGE);
        }
        c.due("two", k.range(0, 1, 1, 2), 0);
        c.due("over chapters", k.range(7, 1, 3, 7), 1);
        c.due("chapters", k.range(7, 0, 0, 5), 2);
        due(c, "two", 0, new int[] {1, 0, 2, 1, 0}, "Section 1.1 to 1.2");
        due(c, "over chapters", 1, new int[] {1, 7, 4, 2, 0}, "Section 1.3 to 1.4, 2.1 to 2.2");
        due(c, "chapters", 2, new int[] {1, 7, 0, 1, 0}, "Chapter 1 to 2");
        c.word(1, "");
        due(c, "without a word", 0, new int[] {1, 0, 2, 1, 0}, "1.1 to 1.2");
        k.cut(7);
        c.due("in a gone one", k.range(7, 1, 1, 2), RANGE);
        due(c, "in a gone one", 1, new int[] {1, 7, 4, 0, 1}, "");

        k = c.fresh("range of 12");
        for (int x = 0; x < 13; x++) {
            k.add(0, NONE, x);
        }
        c.due("13", k.range(0, 0, 0, 12), RANGE);
        c.due("12", k.range(0, 0, 1, 12), 0);
        due(c, "12", 0, new int[] {1, 0, 1, 1, 0}, "2 to 13");
    }

    private static void runs(Check c) {
        CountedKeeper k = c.fresh("runs");
        k.form(0, 1, 3, 0);
        for (int x = 0; x < 6; x++) {
            k.add(0, NONE, x);
        }
        k.range(0, 0, 1, 4);
        due(c, "as made", 0, new int[] {1, 0, 1, 1, 0}, "ii to v");
        k.move(5, NONE, 3);
        due(c, "one between", 0, new int[] {1, 0, 1, 2, 0}, "ii to iii, v to vi");
        k.move(1, NONE, 5);
        due(c, "order, not as made", 0, new int[] {1, 0, 2, 2, 0}, "ii, iv to vi");
        k.move(4, NONE, 0);
        due(c, "ones", 0, new int[] {1, 0, 4, 3, 0}, "i, iii, v to vi");
        k.move(0, NONE, 0);
        k.move(2, 0, 0);
        due(c, "another base, the count 1 more", 0, new int[] {1, 0, 2, 3, 0}, "ii, iii, v to vi");
        k.form(0, 4, 3, 0);
        due(c, "the same base now", 0, new int[] {1, 0, 2, 2, 0}, "ii to iii, v to vi");
    }

    private static final String LONG_BASE = "(i)(i)(i)(i)(i)(i)(i)(i)(i)(i)";

    /** A range of the 77th to the 88th of those that hang on one with a number of 30 bytes. */
    private static int longRangeOn(Check c, String name) {
        CountedKeeper k = c.fresh(name);
        c.word(0, "abcdefghij");
        k.form(1, 0, 3, 2);
        k.form(0, 0, 3, 2);
        int on = NONE;
        for (int i = 0; i < 10; i++) {
            on = k.add(1, on, 0);
        }
        for (int i = 0; i < 90; i++) {
            k.add(0, on, i);
        }
        c.due("range", k.range(0, 0, 10 + 76, 10 + 87), 0);
        return on;
    }

    private static void longRange(Check c) {
        longRangeOn(c, "a long text of one run");
        c.due("text", c.text(0), "abcdefghij " + LONG_BASE + "(lxxvii) to " + LONG_BASE + "(lxxxviii)");
        int on = longRangeOn(c, "a long text of many runs");
        for (int i = 0; i < 6; i++) {
            c.keeper.move(10 + i, on, 78 + i);
        }
        c.due("runs", c.keeper.about(0, 3), 7);
        String text = "(lxxi) to (lxxiii), (lxxv), (lxxvii), (lxxix), (lxxxi), (lxxxiii), (lxxxv) to (lxxxviii)";
        c.due("text", c.text(0), "abcdefghij " + text.replace("(", LONG_BASE + "("));
    }

    private static void rangesOfGoneAndJoined(Check c) {
        CountedKeeper k = book(c, "ranges of gone and joined ones");
        k.range(7, 1, 1, 4);
        k.cut(3);
        due(c, "one gone", 0, new int[] {1, 7, 2, 1, 1}, "Section 1.1 to 1.3");
        k.join(4, 5);
        due(c, "each once", 0, new int[] {1, 7, 2, 1, 1}, "Section 1.1 to 1.2");
        k.join(2, 4);
        due(c, "all in one", 0, new int[] {1, 7, 2, 1, 1}, "Section 1.1");
        k.cut(2);
        due(c, "all gone", 0, new int[] {1, 7, NONE, 0, 4}, "");
        for (int i = 0; i < 4; i++) {
            k.undo();
        }
        due(c, "undone", 0, new int[] {1, 7, 2, 1, 0}, "Section 1.1 to 1.4");
    }

    private static void frozen(Check c) {
        CountedKeeper k = book(c, "frozen");
        c.due("no edition", k.frozen(0, 7, 0), RANGE);
        k.edition();
        k.add(1, 1, 2);
        c.due("not in the edition", k.frozen(0, 8, 0), RANGE);
        int[][] wrong = {{-1, 7, 0}, {9, 7, 0}, {0, -1, 0}, {0, 9, 0}, {0, 7, 1}, {0, 7, -1}, {0, MOST, 0},
            {0, 7, LEAST}};
        for (int[] w : wrong) {
            c.due("wrong frozen", k.frozen(w[0], w[1], w[2]), RANGE);
        }
        c.due("number", k.frozen(2, 7, 0), 0);
        due(c, "frozen", 0, new int[] {4, 2, 7, 1, 0}, "Section 2.2");
        k.move(7, 0, 0);
        c.word(1, "S");
        due(c, "moved", 0, new int[] {4, 2, 7, 1, 0}, "Section 2.2");
        k.cut(7);
        due(c, "gone", 0, new int[] {4, 2, NONE, 1, 1}, "Section 2.2");
        c.due("of a gone one that it had", k.frozen(0, 7, 0), 1);
        c.due("both are trouble", k.trouble(), 2);
        k.undo();
        c.due("none now", k.trouble(), 0);
        k.join(7, 2);
        due(c, "in a joined one", 0, new int[] {4, 7, 7, 1, 0}, "Section 2.2");
        k.cut(7);
        due(c, "in a gone one", 0, new int[] {4, 7, NONE, 0, 1}, "");
        c.due("in a gone one", k.frozen(7, 0, 0), RANGE);
        k.edition();
        c.due("gone in the second edition", k.frozen(0, 7, 1), RANGE);
    }

    private static void trouble(Check c) {
        CountedKeeper k = book(c, "trouble");
        k.mention(0, 0, 7);
        k.mention(1, 2, 0);
        k.range(0, 1, 1, 4);
        c.due("no next chapter", k.trouble(), 1);
        k.range(0, 1, 4, 6);
        c.due("a range of two runs", k.trouble(), 2);
        k.cut(7);
        c.due("of a gone one", k.trouble(), 3);
        k.cut(3);
        c.due("a range with a gone one, of one run", k.trouble(), 4);
        k.mention(4, 3, 5);
        c.due("one in 4", k.trouble(), 5);
        k.cut(4);
        c.due("not in things that are gone", k.trouble(), 4);
    }

    private static void full(Check c) {
        CountedKeeper k = book(c, "100 mentions");
        k.edition();
        for (int m = 0; m < 100; m++) {
            c.due("mention", m % 2 == 0 ? k.mention(0, 0, 1) : k.range(0, 1, 1, 2), m);
        }
        c.due("mention", k.mention(0, 0, 1), FULL);
        c.due("of a kind", k.mention(0, 2, 1), FULL);
        c.due("range", k.range(0, 1, 1, 2), FULL);
        c.due("frozen", k.frozen(0, 1, 0), FULL);
        c.due("wrong mention", k.mention(0, 0, 8), RANGE);
        c.due("wrong range", k.range(0, 1, 1, 1), RANGE);
        c.due("wrong frozen", k.frozen(0, 1, 1), RANGE);
        c.due("count", k.count(2), 100);
        c.due("the last one", c.text(99), "Section 1.1 to 1.2");
        c.due("about behind it", k.about(100, 0), -10);
    }
}
