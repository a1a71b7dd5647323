/** The boundary cases of promises 21 to 24: each part bears the sentence that it tests. */
public final class EditionEdgesTest {
    private static final int NONE = NumberKeeper.NONE;
    private static final int RANGE = NumberKeeper.RANGE;
    private static final int FULL = NumberKeeper.FULL;
    private static final int LEAST = Integer.MIN_VALUE;
    private static final int MOST = Integer.MAX_VALUE;

    public static void main(String[] args) {
        Check c = new Check("EditionEdgesTest");
        eightEditions(c);
        eightOfAFullText(c);
        editionsStayAsTheyWere(c);
        oldArguments(c);
        oldNumberWhole(c);
        oldFirstByNumbers(c);
        oldOfGone(c);
        leadsArguments(c);
        leadsToGone(c);
        leadsOfWhatItHad(c);
        changedArguments(c);
        changedByTold(c);
        changedByGone(c);
        c.finish();
    }

    /** So many on the text, all of kind 0. */
    private static CountedKeeper flat(Check c, String name, int many) {
        CountedKeeper k = c.fresh(name);
        for (int x = 0; x < many; x++) {
            k.add(0, NONE, x);
        }
        return k;
    }

    private static void eightEditions(Check c) {
        CountedKeeper k = flat(c, "21: EDITIONS, at most 8; FULL", 1);
        for (int e = 0; e < 7; e++) {
            c.due("edition", k.edition(), e);
        }
        c.due("the 8th", k.edition(), 7);
        c.due("the 9th", k.edition(), FULL);
        c.due("the 9th again", k.edition(), FULL);
        c.due("count", k.count(3), 8);
        c.due("of the 8th", k.leads(7, 0), 0);
        c.due("of the 9th", k.leads(8, 0), RANGE);
        k.undo();
        c.due("no room comes of an undo", k.edition(), FULL);
    }

    private static void eightOfAFullText(Check c) {
        CountedKeeper k = flat(c, "21: 8 editions of 120 THINGS", 120);
        for (int e = 0; e < 8; e++) {
            c.due("edition", k.edition(), e);
            k.move(119, NONE, 0);
            k.move(119, NONE, 119);
        }
        k.move(119, NONE, 0);
        for (int e = 0; e < 8; e++) {
            c.due("old of " + e, c.old(e, 0, "120"), 119);
            c.due("changed of " + e, k.changed(e), 120);
            c.due("leads of " + e, k.leads(e, 119), 119);
        }
    }

    private static void editionsStayAsTheyWere(Check c) {
        CountedKeeper k = flat(c, "21: EDITIONS keep how each THING was TOLD, and its NUMBER", 3);
        c.word(0, "Part");
        k.edition();
        k.form(0, 0, 4, 2);
        c.word(0, "Teil");
        k.edition();
        k.move(2, NONE, 0);
        k.edition();
        c.due("the first", c.old(0, 0, "3"), 2);
        c.due("the second", c.old(1, 0, "(III)"), 2);
        c.due("the third", c.old(2, 0, "(I)"), 2);
        c.due("the first has none of the second", c.old(0, 0, "(III)"), NONE);
        c.due("the second has none of the third", c.old(1, 0, "(I)"), 0);
        for (int e = 0; e < 3; e++) {
            k.frozen(0, 2, e);
        }
        c.due("texts", c.text(0) + ", " + c.text(1) + ", " + c.text(2), "Part 3, Teil (III), Teil (I)");
        c.due("it is no change", k.count(4), 4);
    }

    private static void oldArguments(Check c) {
        CountedKeeper k = flat(c, "22: RANGE: no such EDITION, KIND", 1);
        k.add(5, NONE, 1);
        c.due("without an edition", c.old(0, 0, "1"), RANGE);
        k.edition();
        k.edition();
        int[] editions = {-1, 2, 3, 8, LEAST, MOST};
        for (int e : editions) {
            c.due("edition " + e, c.old(e, 0, "1"), RANGE);
        }
        int[] kinds = {-1, 6, 7, LEAST, MOST};
        for (int kind : kinds) {
            c.due("kind " + kind, c.old(0, kind, "1"), RANGE);
        }
        c.due("the first kind of the first edition", c.old(0, 0, "1"), 0);
        c.due("the last kind of the last edition", c.old(1, 5, "1"), 1);
        c.due("a kind without things", c.old(1, 4, "1"), NONE);
    }

    private static void oldNumberWhole(Check c) {
        CountedKeeper k = flat(c, "22: THE TAPE is a NUMBER; NONE: none", 12);
        c.word(0, "Part");
        k.edition();
        c.due("empty", c.old(0, 0, ""), NONE);
        c.due("the last", c.old(0, 0, "12"), 11);
        c.due("one less", c.old(0, 0, "1"), 0);
        c.due("one more", c.old(0, 0, "13"), NONE);
        c.due("a byte more", c.old(0, 0, "12 "), NONE);
        c.due("a byte ahead", c.old(0, 0, " 12"), NONE);
        c.due("a naught ahead", c.old(0, 0, "012"), NONE);
        c.due("a zero byte behind", c.old(0, 0, "12\u0000"), NONE);
        c.due("told", c.old(0, 0, "Part 12"), NONE);
        c.due("other bytes", c.old(0, 0, "\u0031\u00b2"), NONE);
        StringBuilder most = new StringBuilder();
        while (most.length() < 600) {
            most.append('1');
        }
        c.due("600 bytes", c.old(0, 0, most.toString()), NONE);
    }

    private static void oldFirstByNumbers(Check c) {
        CountedKeeper k = c.fresh("22: the first THING, by numbers");
        // In the ORDER 2 (1), 0: each "1" but 0, "2".
        k.add(0, NONE, 0);
        k.add(0, 0, 0);
        k.add(0, NONE, 0);
        k.move(1, 2, 0);
        c.due("order", c.order(), "2 1 0");
        k.edition();
        c.due("1", c.old(0, 0, "1"), 1);
        c.due("2", c.old(0, 0, "2"), 0);
        k.cut(1);
        k.edition();
        c.due("1 in the first", c.old(0, 0, "1"), 1);
        c.due("1 in the second", c.old(1, 0, "1"), 2);
    }

    private static void oldOfGone(Check c) {
        CountedKeeper k = flat(c, "22: of a KIND that had it in EDITION e", 3);
        k.edition();
        k.cut(0);
        k.join(1, 2);
        k.add(0, NONE, 0);
        c.due("one that was cut", c.old(0, 0, "1"), 0);
        c.due("one that was joined", c.old(0, 0, "3"), 2);
        k.edition();
        c.due("one that came", c.old(1, 0, "1"), 3);
        c.due("one that is there", c.old(1, 0, "2"), 1);
        c.due("one that it did not have", c.old(1, 0, "3"), NONE);

        k = flat(c, "22: THINGS that came behind EDITION e", 2);
        k.edition();
        k.add(0, NONE, 2);
        k.add(0, NONE, 3);
        c.due("it has no number in it", c.old(0, 0, "3"), NONE);
        c.due("nor one behind all numbers", c.old(0, 0, "4"), NONE);
        c.due("the last that it had", c.old(0, 0, "2"), 1);
    }

    private static void leadsArguments(Check c) {
        CountedKeeper k = flat(c, "23: RANGE: no such", 3);
        c.due("without an edition", k.leads(0, 0), RANGE);
        k.edition();
        k.edition();
        int[] editions = {-1, 2, 3, 8, LEAST, MOST};
        for (int e : editions) {
            c.due("edition " + e, k.leads(e, 0), RANGE);
        }
        int[] things = {-1, -2, 3, 4, 120, LEAST, MOST};
        for (int x : things) {
            c.due("thing " + x, k.leads(1, x), RANGE);
        }
        c.due("the first", k.leads(0, 0), 0);
        c.due("the last", k.leads(1, 2), 2);
    }

    private static void leadsToGone(Check c) {
        CountedKeeper k = flat(c, "23: The THING to which one leads now; NONE: it is GONE", 4);
        k.edition();
        k.join(0, 1);
        c.due("joined", k.leads(0, 1), 0);
        k.cut(2);
        c.due("cut", k.leads(0, 2), NONE);
        k.cut(0);
        c.due("joined into one that was cut", k.leads(0, 1), NONE);
        k.undo();
        k.undo();
        k.undo();
        c.due("all undone", k.leads(0, 1) * 10 + k.leads(0, 2), 12);
        k.undo();
        c.due("its add undone", k.leads(0, 3), NONE);
    }

    private static void leadsOfWhatItHad(Check c) {
        CountedKeeper k = flat(c, "23: one that EDITION e had", 3);
        k.cut(2);
        k.join(0, 1);
        k.edition();
        c.due("not one that was cut", k.leads(0, 2), RANGE);
        c.due("not one that was joined", k.leads(0, 1), RANGE);
        k.undo();
        k.undo();
        c.due("though it is there now", k.leads(0, 2), RANGE);
        c.due("though it is there now", k.leads(0, 1), RANGE);
        k.add(0, NONE, 0);
        c.due("not one that came later", k.leads(0, 3), RANGE);
        c.due("one that was there", k.leads(0, 0), 0);
    }

    private static void changedArguments(Check c) {
        CountedKeeper k = flat(c, "24: RANGE", 3);
        c.due("without an edition", k.changed(0), RANGE);
        k.edition();
        k.move(0, NONE, 2);
        k.edition();
        int[] editions = {-1, 2, 3, 8, LEAST, MOST};
        for (int e : editions) {
            c.due("edition " + e, k.changed(e), RANGE);
        }
        c.due("the first", k.changed(0), 3);
        c.due("the last", k.changed(1), 0);
    }

    private static void changedByTold(Check c) {
        CountedKeeper k = flat(c, "24: lead to one that is TOLD otherwise now", 3);
        k.edition();
        c.due("none", k.changed(0), 0);
        k.move(0, NONE, 1);
        c.due("two", k.changed(0), 2);
        k.undo();
        c.due("none again", k.changed(0), 0);
        c.word(0, "P");
        c.due("by the word", k.changed(0), 3);
        c.word(0, "");
        k.form(0, 0, 0, 2);
        c.due("by the form", k.changed(0), 3);
        k.form(0, 0, 0, 1);
        c.due("by a form that tells the same", k.changed(0), 0);
        k.add(0, NONE, 3);
        c.due("what it did not have", k.changed(0), 0);
        k.join(1, 2);
        c.due("one that was joined", k.changed(0), 1);
        k.undo();
        k.cut(0);
        k.add(0, NONE, 0);
        k.join(1, 2);
        c.due("the cut one and the joined one", k.changed(0), 2);
        k.add(0, NONE, 1);
        c.due("1 is 3 now, and 2 leads to it", k.changed(0), 2);
    }

    private static void changedByGone(Check c) {
        CountedKeeper k = flat(c, "24: or are GONE", 4);
        k.edition();
        k.cut(3);
        c.due("one", k.changed(0), 1);
        k.join(1, 2);
        k.cut(1);
        c.due("one that was joined into a gone one, too", k.changed(0), 3);
        k.cut(0);
        c.due("all", k.changed(0), 4);
        k.edition();
        c.due("of an edition that had nothing", k.changed(1), 0);
        k.undo();
        c.due("still nothing", k.changed(1), 0);
        c.due("all but one", k.changed(0), 3);
    }
}
