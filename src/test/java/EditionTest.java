/** Promises 21 to 24: editions, their old numbers and what they lead to. */
public final class EditionTest {
    private static final int NONE = NumberKeeper.NONE;
    private static final int RANGE = NumberKeeper.RANGE;
    private static final int FULL = NumberKeeper.FULL;
    private static final int LEAST = Integer.MIN_VALUE;
    private static final int MOST = Integer.MAX_VALUE;

    public static void main(String[] args) {
        Check c = new Check("EditionTest");
        making(c);
        oldNumbers(c);
        leading(c);
        changing(c);
        c.finish();
    }

    private static CountedKeeper three(Check c, String name) {
        CountedKeeper k = c.fresh(name);
        c.word(0, "Part");
        k.form(0, 0, 0, 1);
        k.add(0, NONE, 0);
        k.add(0, NONE, 1);
        k.add(0, 1, 0);
        return k;
    }

    private static void making(Check c) {
        CountedKeeper k = c.fresh("edition");
        for (int e = 0; e < 8; e++) {
            c.due("edition", k.edition(), e);
        }
        c.due("one more", k.edition(), FULL);
        c.due("count", k.count(3), 8);
        c.due("of nothing", k.changed(7), 0);
        c.due("it is no change", k.count(4), 0);
    }

    private static void oldNumbers(Check c) {
        CountedKeeper k = three(c, "old");
        k.add(1, NONE, 2);
        k.edition();
        k.move(1, NONE, 0);
        k.edition();
        c.due("2.1 then", c.old(0, 0, "2.1"), 2);
        c.due("2.1 later", c.old(1, 0, "2.1"), NONE);
        c.due("1.1 later", c.old(1, 0, "1.1"), 2);
        c.due("2 then", c.old(0, 0, "2"), 1);
        c.due("2 later", c.old(1, 0, "2"), 0);
        c.due("of another kind", c.old(0, 1, "1"), 3);
        c.due("no such number", c.old(0, 0, "3"), NONE);
        c.due("no words in it", c.old(0, 0, "Part 2"), NONE);
        c.due("nor less", c.old(0, 0, "2."), NONE);
        c.due("nothing", c.old(0, 0, ""), NONE);
        c.due("of a kind without things", c.old(0, 5, "1"), NONE);
        int[][] wrong = {{2, 0}, {-1, 0}, {0, 6}, {0, -1}, {MOST, 0}, {0, LEAST}};
        for (int[] w : wrong) {
            c.due("wrong old", c.old(w[0], w[1], "1"), RANGE);
        }
        k.cut(1);
        c.due("gone ones are still found", c.old(0, 0, "2.1"), 2);
        k.edition();
        c.due("but not later", c.old(2, 0, "1.1"), NONE);

        k = c.fresh("old finds the first by numbers");
        k.add(0, NONE, 0);
        k.add(0, 0, 0);
        k.add(0, NONE, 0);
        k.edition();
        c.due("1", c.old(0, 0, "1"), 1);
        c.due("2", c.old(0, 0, "2"), 0);
    }

    private static void leading(Check c) {
        CountedKeeper k = three(c, "leads");
        k.edition();
        k.add(0, NONE, 2);
        c.due("itself", k.leads(0, 2), 2);
        c.due("not in it", k.leads(0, 3), RANGE);
        int[][] wrong = {{1, 0}, {-1, 0}, {0, -1}, {0, 4}, {MOST, 0}, {0, MOST}, {0, LEAST}};
        for (int[] w : wrong) {
            c.due("wrong leads", k.leads(w[0], w[1]), RANGE);
        }
        k.join(1, 3);
        k.join(0, 1);
        c.due("joined", k.leads(0, 1), 0);
        c.due("moved", k.leads(0, 2), 2);
        k.edition();
        c.due("a joined one is not in it", k.leads(1, 1), RANGE);
        k.cut(0);
        c.due("gone", k.leads(0, 0), NONE);
        c.due("joined to a gone one", k.leads(0, 1), NONE);
        k.undo();
        k.undo();
        c.due("undone", k.leads(0, 1), 1);
    }

    private static void changing(Check c) {
        CountedKeeper k = three(c, "changed");
        k.edition();
        int[] wrong = {1, -1, MOST, LEAST};
        for (int w : wrong) {
            c.due("wrong changed", k.changed(w), RANGE);
        }
        c.due("nothing", k.changed(0), 0);
        k.add(0, NONE, 2);
        c.due("one more behind", k.changed(0), 0);
        k.add(0, NONE, 0);
        c.due("one more ahead", k.changed(0), 3);
        k.undo();
        c.word(0, "Teil");
        c.due("words", k.changed(0), 3);
        c.word(0, "Part");
        c.due("words again", k.changed(0), 0);
        k.join(0, 1);
        c.due("a joined one and its kid", k.changed(0), 2);
        k.undo();
        k.cut(1);
        c.due("gone ones", k.changed(0), 2);
        k.undo();
        k.form(0, 0, 0, 0);
        c.due("forms", k.changed(0), 1);
        k.edition();
        c.due("the second one", k.changed(1), 0);
        c.due("the first one", k.changed(0), 1);
    }
}
