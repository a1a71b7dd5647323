/** Promises 6 to 14: things, their numbers, changes and how they are undone. */
public final class ThingTest {
    private static final int NONE = NumberKeeper.NONE;
    private static final int RANGE = NumberKeeper.RANGE;
    private static final int FULL = NumberKeeper.FULL;
    private static final int LEAST = Integer.MIN_VALUE;
    private static final int MOST = Integer.MAX_VALUE;

    public static void main(String[] args) {
        Check c = new Check("ThingTest");
        adding(c);
        moving(c);
        movingCountsNumbers(c);
        cutting(c);
        joining(c);
        undoing(c);
        fullThings(c);
        fullLog(c);
        scopes(c);
        signs(c);
        joins(c);
        longBases(c);
        deepTree(c);
        gone(c);
        twins(c);
        c.finish();
    }

    /** 0 (1 (2, 3), 4), 5: all of kind 0 but 3 and 4, of kind 1. */
    private static CountedKeeper small(Check c, String name) {
        CountedKeeper k = c.fresh(name);
        k.add(0, NONE, 0);
        k.add(0, 0, 0);
        k.add(0, 1, 0);
        k.add(1, 1, 1);
        k.add(1, 0, 1);
        k.add(0, NONE, 1);
        return k;
    }

    private static final String SMALL = "0:-1/0 1:0/0 2:1/0 3:1/1 4:0/1 5:-1/1";

    private static void adding(Check c) {
        CountedKeeper k = small(c, "add");
        c.due("tree", c.tree(), SMALL);
        c.due("ahead of all", k.add(2, NONE, 0), 6);
        c.due("between", k.add(2, 0, 1), 7);
        c.due("tree", c.tree(), "6:-1/0 0:-1/1 1:0/0 2:1/0 3:1/1 7:0/1 4:0/2 5:-1/2");
        int[][] wrong = {{-1, NONE, 0}, {6, NONE, 0}, {0, -2, 0}, {0, 8, 0}, {0, NONE, -1}, {0, NONE, 4}, {0, 2, 1},
            {0, 0, 4}, {LEAST, NONE, 0}, {0, MOST, 0}, {0, LEAST, 0}, {0, NONE, MOST}, {0, NONE, LEAST}};
        for (int[] w : wrong) {
            c.due("wrong add", k.add(w[0], w[1], w[2]), RANGE);
        }
        k.cut(2);
        c.due("on one that is gone", k.add(0, 2, 0), RANGE);
        c.due("no entry more", k.count(4), 9);
        c.due("no thing more", k.count(0), 8);
    }

    private static void moving(Check c) {
        CountedKeeper k = small(c, "move");
        int[][] wrong = {{-1, NONE, 0}, {6, NONE, 0}, {0, -2, 0}, {0, 6, 0}, {0, 0, 0}, {0, 1, 0}, {0, 2, 0},
            {0, NONE, 2}, {0, NONE, -1}, {5, 0, 3}, {1, 0, 2}, {MOST, NONE, 0}, {0, LEAST, 0}, {0, NONE, MOST}};
        for (int[] w : wrong) {
            c.due("wrong move " + w[0] + " " + w[1] + " " + w[2], k.move(w[0], w[1], w[2]), RANGE);
        }
        c.due("no entry", k.count(4), 6);
        k.move(1, 5, 0);
        c.due("with all below", c.tree(), "0:-1/0 4:0/0 5:-1/1 1:5/0 2:1/0 3:1/1");
        k.move(5, NONE, 0);
        c.due("as the i-th then", c.tree(), "5:-1/0 1:5/0 2:1/0 3:1/1 0:-1/1 4:0/0");
        k.move(5, NONE, 1);
        c.due("behind the other", c.tree(), "0:-1/0 4:0/0 5:-1/1 1:5/0 2:1/0 3:1/1");
        k.move(2, NONE, 2);
        c.due("on the text", c.tree(), "0:-1/0 4:0/0 5:-1/1 1:5/0 3:1/0 2:-1/2");
        c.due("to where it is", k.move(2, NONE, 2), 0);
        c.due("that is a change, too", k.count(4), 11);
        k.cut(5);
        c.due("one that is gone", k.move(1, NONE, 0), RANGE);
        c.due("on one that is gone", k.move(0, 5, 0), RANGE);
    }

    private static void movingCountsNumbers(Check c) {
        CountedKeeper k = c.fresh("move tells how many have another number");
        k.form(0, 0, 0, 1);
        k.form(1, 1, 1, 0);
        for (int i = 0; i < 4; i++) {
            k.add(0, NONE, i);
        }
        k.add(0, 3, 0);
        k.add(1, 3, 1);
        k.add(1, 0, 0);
        c.due("3 to the front", k.move(3, NONE, 0), 7);
        c.due("told", c.told(4), "1.1");
        c.due("told", c.told(5), "a");
        c.due("back again", k.move(3, NONE, 3), 7);
        c.due("two that change places", k.move(1, NONE, 2), 2);
        c.due("a lone one goes", k.move(4, 0, 0), 1);
        c.due("behind one of another kind", k.move(4, 0, 1), 0);

        k = c.fresh("only what is there counts");
        k.add(0, NONE, 0);
        k.add(0, NONE, 1);
        k.add(0, NONE, 2);
        k.cut(0);
        c.due("move", k.move(2, NONE, 0), 2);
        c.word(0, "Part");
        c.due("words are no part of numbers", k.move(2, NONE, 0), 0);
    }

    private static void cutting(Check c) {
        CountedKeeper k = small(c, "cut");
        c.due("no such", k.cut(6), RANGE);
        c.due("none", k.cut(NONE), RANGE);
        c.due("least", k.cut(LEAST), RANGE);
        c.due("with all below", k.cut(1), 3);
        c.due("tree", c.tree(), "0:-1/0 4:0/0 5:-1/1");
        c.due("again", k.cut(1), RANGE);
        c.due("below", k.cut(2), RANGE);
        c.due("a lone one", k.cut(5), 1);
        c.due("there", k.count(1), 2);
        c.due("in all", k.count(0), 6);
        c.due("a new one", k.add(0, NONE, 1), 6);
    }

    private static void joining(Check c) {
        CountedKeeper k = c.fresh("join");
        k.add(0, NONE, 0);
        k.add(0, NONE, 1);
        k.add(1, NONE, 2);
        k.add(0, NONE, 3);
        k.add(2, 0, 0);
        k.add(2, 1, 0);
        k.add(3, 1, 1);
        k.add(0, 0, 1);
        int[][] wrong = {{1, 0}, {0, 0}, {0, 3}, {1, 2}, {1, 3}, {2, 3}, {7, 1}, {0, 7}, {-1, 0}, {0, -1}, {8, 0},
            {0, 8}, {MOST, 0}, {0, LEAST}};
        for (int[] w : wrong) {
            c.due("wrong join " + w[0] + " " + w[1], k.join(w[0], w[1]), RANGE);
        }
        c.due("join", k.join(0, 1), 4);
        c.due("tree", c.tree(), "0:-1/0 4:0/0 7:0/1 5:0/2 6:0/3 2:-1/1 3:-1/2");
        c.due("joined into", k.thing(1, 7), 0);
        c.due("is not there", k.thing(1, 6), 0);
        c.due("hangs nowhere", k.thing(1, 1), -9);
        c.due("again", k.join(0, 1), RANGE);
        k.cut(2);
        c.due("with none between now", k.join(0, 3), 4);
        c.due("none on both", k.add(5, NONE, 1) + k.add(5, NONE, 2), 8 + 9);
        c.due("join of empty ones", k.join(8, 9), 0);
        c.due("cut what it leads to", k.cut(0), 5);
        c.due("still joined", k.thing(1, 7), 0);
    }

    private static void undoing(Check c) {
        CountedKeeper k = c.fresh("undo");
        k.form(0, 0, 0, 1);
        String[] trees = new String[20];
        k.add(0, NONE, 0);
        k.add(0, 0, 0);
        k.add(0, 1, 0);
        k.add(1, 1, 1);
        k.add(1, 0, 1);
        k.add(0, NONE, 1);
        c.due("as built", c.tree(), SMALL);
        int done = 6;
        trees[done++] = c.tree();
        k.move(1, 5, 0);
        trees[done++] = c.tree();
        k.move(5, NONE, 0);
        trees[done++] = c.tree();
        k.join(5, 0);
        trees[done++] = c.tree();
        k.add(0, 1, 1);
        trees[done++] = c.tree();
        k.move(2, 1, 2);
        trees[done++] = c.tree();
        k.cut(1);
        trees[done++] = c.tree();
        k.cut(5);
        c.due("log", k.count(4), 13);
        c.due("all gone", c.tree(), "");
        for (int left = 12; left >= 6; left--) {
            c.due("undo", k.undo(), left);
            c.due("tree with " + left, c.tree(), trees[left]);
        }
        c.due("joined no more", k.thing(0, 7), NONE);
        c.due("there again", k.thing(0, 6), 1);
        c.due("the added one is gone", k.thing(6, 6), 0);
        c.due("numbers", c.told(2), "1.1.1");
        c.due("not used again", k.add(0, NONE, 0), 7);
        c.due("undo", k.undo(), 6);
        for (int left = 5; left >= 0; left--) {
            c.due("undo of an add", k.undo(), left);
        }
        c.due("nothing there", k.count(1), 0);
        c.due("none left", k.undo(), NONE);
        c.due("in all", k.count(0), 8);
        c.due("forms stay", k.count(30), 1);

        k = c.fresh("undo of a join without kids ahead");
        k.add(0, NONE, 0);
        k.add(0, NONE, 1);
        k.add(0, NONE, 2);
        k.add(1, 1, 0);
        k.add(1, 1, 1);
        c.due("join", k.join(0, 1), 2);
        c.due("join the next", k.join(0, 2), 2);
        k.undo();
        k.undo();
        c.due("tree", c.tree(), "0:-1/0 1:-1/1 3:1/0 4:1/1 2:-1/2");
    }

    private static void fullThings(Check c) {
        CountedKeeper k = c.fresh("120 things");
        for (int x = 0; x < 120; x++) {
            c.due("add", k.add(0, NONE, x), x);
        }
        c.due("one more", k.add(0, NONE, 0), FULL);
        c.due("a wrong one more", k.add(0, NONE, 121), RANGE);
        c.due("a wrong kind more", k.add(6, NONE, 0), RANGE);
        c.due("log", k.count(4), 120);
        k.cut(5);
        c.due("gone ones count", k.add(0, NONE, 0), FULL);
        k.undo();
        k.undo();
        c.due("undone ones count", k.add(0, NONE, 0), FULL);
        c.due("the last one", c.told(118), "119");
    }

    private static void fullLog(Check c) {
        CountedKeeper k = c.fresh("200 entries");
        k.add(0, NONE, 0);
        k.add(0, NONE, 1);
        for (int n = 2; n < 200; n++) {
            k.move(0, NONE, n % 2);
        }
        c.due("log", k.count(4), 200);
        String tree = c.tree();
        c.due("move", k.move(0, NONE, 0), FULL);
        c.due("cut", k.cut(0), FULL);
        c.due("add", k.add(0, NONE, 0), FULL);
        int ahead = k.at(0);
        int behind = k.at(1);
        c.due("join", k.join(ahead, behind), FULL);
        c.due("wrong move", k.move(0, 0, 0), RANGE);
        c.due("wrong cut", k.cut(2), RANGE);
        c.due("wrong add", k.add(0, 2, 0), RANGE);
        c.due("wrong join", k.join(behind, ahead), RANGE);
        c.due("nothing was done", c.tree(), tree);
        c.due("no thing came", k.count(0), 2);
        c.due("undo", k.undo(), 199);
        c.due("room again", k.add(0, NONE, 0), 2);
        c.due("full again", k.cut(2), FULL);
    }

    private static void scopes(Check c) {
        CountedKeeper k = c.fresh("scopes");
        // 0 part (1 chapter (2 note, 3 note), 4 chapter (5 note (6 note))), 7 note, 8 part (9 note)
        k.add(0, NONE, 0);
        k.add(1, 0, 0);
        k.add(2, 1, 0);
        k.add(2, 1, 1);
        k.add(1, 0, 1);
        k.add(2, 4, 0);
        k.add(2, 5, 0);
        k.add(2, NONE, 1);
        k.add(0, NONE, 2);
        k.add(2, 8, 0);
        int[] notes = {2, 3, 5, 6, 7, 9};
        countsOf(c, k, notes, 0, new int[] {1, 2, 1, 1, 1, 1}, new int[] {1, 1, 4, 5, NONE, 8});
        countsOf(c, k, notes, 1, new int[] {1, 2, 3, 4, 5, 6}, new int[] {1, 1, 4, 5, NONE, 8});
        countsOf(c, k, notes, 2, new int[] {1, 2, 3, 4, 5, 1}, new int[] {0, 0, 0, 0, NONE, 8});
        countsOf(c, k, notes, 3, new int[] {1, 2, 1, 2, 5, 6}, new int[] {1, 1, 4, 4, NONE, NONE});
        countsOf(c, k, notes, 4, new int[] {1, 2, 3, 1, 5, 6}, new int[] {NONE, NONE, NONE, 5, NONE, NONE});
        countsOf(c, k, notes, 7, new int[] {1, 2, 3, 4, 5, 6}, new int[] {NONE, NONE, NONE, NONE, NONE, NONE});
    }

    private static void countsOf(Check c, CountedKeeper k, int[] things, int scope, int[] counts, int[] bases) {
        k.form(2, scope, 0, 1);
        for (int i = 0; i < things.length; i++) {
            c.due("count of " + things[i] + " in scope " + scope, k.thing(things[i], 4), counts[i]);
            c.due("base of " + things[i] + " in scope " + scope, k.thing(things[i], 8), bases[i]);
        }
    }

    private static void signs(Check c) {
        CountedKeeper k = c.fresh("signs");
        for (int x = 0; x < 120; x++) {
            k.add(0, NONE, x);
        }
        int[] counts = {1, 4, 5, 9, 10, 14, 26, 27, 40, 49, 52, 53, 88, 90, 99, 100, 120};
        String[][] due = {
            {"1", "4", "5", "9", "10", "14", "26", "27", "40", "49", "52", "53", "88", "90", "99", "100", "120"},
            {"a", "d", "e", "i", "j", "n", "z", "aa", "an", "aw", "az", "ba", "cj", "cl", "cu", "cv", "dp"},
            {"A", "D", "E", "I", "J", "N", "Z", "AA", "AN", "AW", "AZ", "BA", "CJ", "CL", "CU", "CV", "DP"},
            {"i", "iv", "v", "ix", "x", "xiv", "xxvi", "xxvii", "xl", "xlix", "lii", "liii", "lxxxviii", "xc", "xcix",
                "c", "cxx"},
            {"I", "IV", "V", "IX", "X", "XIV", "XXVI", "XXVII", "XL", "XLIX", "LII", "LIII", "LXXXVIII", "XC", "XCIX",
                "C", "CXX"}};
        for (int style = 0; style < due.length; style++) {
            k.form(0, 0, style, 0);
            for (int i = 0; i < counts.length; i++) {
                c.due("count " + counts[i] + " in style " + style, c.told(counts[i] - 1), due[style][i]);
            }
        }
    }

    private static void joins(Check c) {
        CountedKeeper k = c.fresh("joins");
        k.add(0, NONE, 0);
        k.add(0, NONE, 1);
        k.add(1, 1, 0);
        k.add(1, 1, 1);
        k.add(1, NONE, 2);
        k.form(0, 0, 4, 0);
        k.form(1, 0, 1, 0);
        c.due("join 0", c.told(3) + " " + c.told(4), "b a");
        k.form(1, 0, 1, 1);
        c.due("join 1", c.told(3) + " " + c.told(4), "II.b a");
        k.form(1, 0, 1, 2);
        c.due("join 2", c.told(3) + " " + c.told(4), "II(b) (a)");
        c.word(1, "Note");
        c.due("with a word", c.told(3), "Note II(b)");
        c.word(0, "Part");
        c.due("the base's word is no part of it", c.told(3), "Note II(b)");
        k.form(1, 2, 3, 2);
        c.due("the one above as base", c.told(3) + " " + c.told(4), "Note II(ii) Note (iii)");
        c.due("byte -1", k.told(3, -1), NONE);
        c.due("byte 0", k.told(3, 0), 'N');
        c.due("byte behind", k.told(3, 11), NONE);
        c.due("least byte", k.told(3, LEAST), NONE);
        c.due("most byte", k.told(3, MOST), NONE);
        c.due("no such", k.told(5, 0), NONE);
        c.due("none such", k.told(-1, 0), NONE);
    }

    private static void longBases(Check c) {
        CountedKeeper k = c.fresh("a base with more than 30 bytes");
        k.form(0, 0, 0, 2);
        k.form(1, 0, 1, 1);
        k.form(2, 0, 0, 0);
        int on = NONE;
        for (int x = 0; x < 12; x++) {
            on = k.add(0, on, 0);
        }
        c.due("30 bytes", c.told(9), "(1)(1)(1)(1)(1)(1)(1)(1)(1)(1)");
        c.due("its kid", c.told(10), "(1)(1)(1)(1)(1)(1)(1)(1)(1)(1)(1)");
        c.due("30 bytes are a base", k.thing(10, 8), 9);
        c.due("33 are none", k.thing(11, 8), NONE);
        c.due("begins anew", c.told(11), "(1)");
        k.add(1, 9, 0);
        k.add(1, 10, 0);
        k.add(2, 9, 0);
        k.add(2, 10, 0);
        c.due("other kinds too", c.told(12), "(1)(1)(1)(1)(1)(1)(1)(1)(1)(1).a");
        c.due("other kinds too", c.told(13), "a");
        c.due("with join 0, too", k.thing(14, 8), 9);
        c.due("with join 0, too", k.thing(15, 8), NONE);
        k.form(0, 0, 0, 1);
        for (int x = 11; x < 16; x++) {
            on = k.add(0, x == 11 ? 11 : on, 0);
        }
        c.due("31 bytes", c.told(19), "1.1.1.1.1.1.1.1.1.1.1.1.1.1.1.1");
        c.due("31 are none", k.thing(20, 8), NONE);
        c.due("29 are a base", k.thing(19, 8), 18);
        k.form(0, 0, 0, 2);
        k.form(2, 2, 0, 0);
        c.due("the nearest above is no base", k.thing(15, 8), NONE);
        c.due("but the scope", k.thing(15, 4), 1);
    }

    private static void deepTree(Check c) {
        CountedKeeper k = c.fresh("120 deep");
        k.form(0, 2, 0, 1);
        int on = NONE;
        for (int x = 0; x < 120; x++) {
            on = k.add(0, on, 0);
        }
        c.due("place", k.thing(119, 5), 119);
        c.due("the deepest moves", k.move(119, NONE, 1), 1);
        c.due("count", k.thing(119, 4), 120);
        c.due("cut", k.cut(0), 119);
        c.due("undo", k.undo(), 121);
        c.due("there", k.count(1), 120);
        c.due("below itself", k.move(0, 118, 0), RANGE);
    }

    private static void gone(Check c) {
        CountedKeeper k = small(c, "thing");
        k.form(0, 1, 0, 1);
        int[] zero = {0, NONE, 0, 2, 1, 0, 1, NONE, NONE};
        int[] two = {0, 1, 0, 0, 3, 2, 1, NONE, 1};
        int[] five = {0, NONE, 1, 0, 4, 5, 1, NONE, NONE};
        for (int what = 0; what <= 8; what++) {
            c.due("thing 0, " + what, k.thing(0, what), zero[what]);
            c.due("thing 2, " + what, k.thing(2, what), two[what]);
            c.due("thing 5, " + what, k.thing(5, what), five[what]);
        }
        k.cut(1);
        int[] one = {0, -9, -9, 0, 0, NONE, 0, NONE, NONE};
        int[] three = {1, -9, -9, 0, 0, NONE, 0, NONE, NONE};
        for (int what = 0; what <= 8; what++) {
            c.due("gone 1, " + what, k.thing(1, what), one[what]);
            c.due("gone 3, " + what, k.thing(3, what), three[what]);
        }
        c.due("told of a gone one", k.told(1, 0), NONE);
        int[][] wrong = {{0, 9}, {0, -1}, {6, 0}, {-1, 0}, {MOST, 0}, {LEAST, 0}, {0, MOST}, {1, 9}};
        for (int[] w : wrong) {
            c.due("none such", k.thing(w[0], w[1]), -10);
        }
        c.due("at", k.at(1), 4);
        c.due("at the end", k.at(2), 5);
        c.due("at behind it", k.at(3), NONE);
        c.due("at -1", k.at(-1), NONE);
        c.due("at most", k.at(MOST), NONE);
    }

    private static void twins(Check c) {
        CountedKeeper k = small(c, "twins");
        // Of kind 0: 0 "1", 1 "1", 2 "1", 5 "2"; of kind 1: 3 "1", 4 "1".
        c.due("pairs of one kind", k.twins(), 4);
        k.form(0, 0, 0, 1);
        c.due("with bases", k.twins(), 1);
        k.form(1, 1, 0, 0);
        c.due("none", k.twins(), 0);
        k.form(1, 0, 0, 0);
        k.cut(3);
        c.due("gone ones do not count", k.twins(), 0);
        c.word(0, "Part");
        k.form(0, 0, 0, 0);
        c.due("three of one number are three pairs", k.twins(), 3);
    }
}
