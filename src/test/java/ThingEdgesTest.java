/** The boundary cases of promises 6 to 14: each part bears the sentence that it tests. */
public final class ThingEdgesTest {
    private static final int NONE = NumberKeeper.NONE;
    private static final int RANGE = NumberKeeper.RANGE;
    private static final int FULL = NumberKeeper.FULL;
    private static final int LEAST = Integer.MIN_VALUE;
    private static final int MOST = Integer.MAX_VALUE;

    public static void main(String[] args) {
        Check c = new Check("ThingEdgesTest");
        addKinds(c);
        addOn(c);
        addPlaces(c);
        addAt120(c);
        goneOnesAreOfThe120(c);
        moveThings(c);
        moveOn(c);
        movePlacesOnTheSame(c);
        movePlacesOnAnother(c);
        moveBelowItself(c);
        moveTellsNumbers(c);
        cutThings(c);
        cutTellsHowMany(c);
        joinNeighbours(c);
        joinKinds(c);
        joinOnTheSame(c);
        joinThatAreThere(c);
        joinTellsHowMany(c);
        logOf200(c);
        fullLogBehindOthers(c);
        logAndThingsFull(c);
        noEntries(c);
        undoOfNothing(c);
        undoOfEach(c);
        undoneNumbers(c);
        undoLeavesTheRest(c);
        undoAll200(c);
        thingsThatAreThere(c);
        thingsThatAreGone(c);
        noSuchThings(c);
        placesOfOrder(c);
        bytesOfTold(c);
        twinsOfNone(c);
        twinsOfMany(c);
        c.finish();
    }

    /** 0 (1 (2, 3), 4), 5: all of kind 0 but 3 and 4, of kind 1. */
    private static CountedKeeper small(Check c, String name) {
        CountedKeeper k = c.fresh(name);
        k.add(0, NONE, 0);
        k.add(0, 0, 0);
        k.add(0, 1, 0);
        k.add(1, 1, 1);
        k.add(1, 0, 1);
        k.add(0, NONE, 1);
        return k;
    }

    private static final String SMALL = "0:-1/0 1:0/0 2:1/0 3:1/1 4:0/1 5:-1/1";

    /** Four on the text, of which 1 is joined into 0, 2 is cut and 4 was never to be; 0 and 3 are there. */
    private static CountedKeeper withGone(Check c, String name) {
        CountedKeeper k = c.fresh(name);
        k.add(0, NONE, 0);
        k.add(0, NONE, 1);
        k.add(0, NONE, 2);
        k.add(0, NONE, 3);
        k.join(0, 1);
        k.cut(2);
        k.add(0, NONE, 0);
        k.undo();
        c.due("there", c.order(), "0 3");
        return k;
    }

    private static final int[] GONE = {1, 2, 4};

    private static void nothingWasDone(Check c, int log) {
        c.due("nothing was done", c.tree(), SMALL);
        c.due("no thing more", c.keeper.count(0), 6);
        c.due("no entry more", c.keeper.count(4), log);
    }

    // ---- add

    private static void addKinds(Check c) {
        CountedKeeper k = c.fresh("6: each of a KIND 0 .. 5");
        int[] none = {-1, 6, LEAST, MOST};
        for (int kind : none) {
            c.due("kind " + kind, k.add(kind, NONE, 0), RANGE);
        }
        for (int kind = 0; kind < 6; kind++) {
            c.due("kind " + kind, k.add(kind, NONE, kind), kind);
            c.due("it is", k.thing(kind, 0), kind);
        }
        c.due("counts", c.counts(), "6 6 0 0 6 0");
    }

    private static void addOn(Check c) {
        CountedKeeper k = small(c, "6: on another one (NONE: the text)");
        int[] none = {-2, -3, -9, -10, 6, 7, LEAST, MOST};
        for (int on : none) {
            c.due("on " + on, k.add(0, on, 0), RANGE);
        }
        nothingWasDone(c, 6);
        c.due("on the text", k.add(0, NONE, 0), 6);
        c.due("on the first", k.add(0, 0, 0), 7);
        c.due("on the last", k.add(0, 7, 0), 8);
        c.due("tree", c.tree(), "6:-1/0 0:-1/1 7:0/0 8:7/0 1:0/1 2:1/0 3:1/1 4:0/2 5:-1/2");
        k = withGone(c, "6: on one that is GONE");
        for (int on : GONE) {
            c.due("on " + on, k.add(0, on, 0), RANGE);
        }
        c.due("on one that is there", k.add(0, 3, 0), 5);
    }

    private static void addPlaces(Check c) {
        CountedKeeper k = small(c, "6: as the i-th that hangs on it (0 .. how many there are)");
        int[][] none = {{NONE, -1}, {NONE, 3}, {NONE, LEAST}, {NONE, MOST}, {0, -1}, {0, 3}, {2, -1}, {2, 1}, {0, LEAST},
            {0, MOST}};
        for (int[] w : none) {
            c.due("on " + w[0] + " as " + w[1], k.add(0, w[0], w[1]), RANGE);
        }
        nothingWasDone(c, 6);
        c.due("the last on the text", k.add(2, NONE, 2), 6);
        c.due("the first on the text", k.add(2, NONE, 0), 7);
        c.due("the last on one", k.add(2, 0, 2), 8);
        c.due("the first on one", k.add(2, 0, 0), 9);
        c.due("between", k.add(2, 0, 2), 10);
        c.due("on one without any", k.add(2, 2, 0), 11);
        c.due("tree", c.tree(), "7:-1/0 0:-1/1 9:0/0 1:0/1 2:1/0 11:2/0 3:1/1 10:0/2 4:0/3 8:0/4 5:-1/2 6:-1/3");
        k.cut(8);
        c.due("gone ones are not of how many there are", k.add(2, 0, 5), RANGE);
        c.due("the last then", k.add(2, 0, 4), 12);
    }

    private static void addAt120(Check c) {
        CountedKeeper k = c.fresh("6: THINGS, at most 120 in all: FULL");
        for (int x = 0; x < 119; x++) {
            k.add(0, NONE, x);
        }
        c.due("the 120th", k.add(0, NONE, 119), 119);
        c.due("the 121st", k.add(0, NONE, 120), FULL);
        c.due("the 121st on another", k.add(5, 119, 0), FULL);
        c.due("no such kind", k.add(6, NONE, 0), RANGE);
        c.due("no such thing", k.add(0, 120, 0), RANGE);
        c.due("no such place", k.add(0, NONE, 121), RANGE);
        c.due("below 0", k.add(0, NONE, -1), RANGE);
        c.due("counts", c.counts(), "120 120 0 0 120 0");
        c.due("none came", k.thing(120, 0), -10);
        c.due("other changes are done", k.move(119, NONE, 0), 120);
        c.due("other changes are done", k.join(119, 0), 0);
        c.due("other changes are done", k.cut(119), 1);
        c.due("log", k.count(4), 123);
    }

    private static void goneOnesAreOfThe120(Check c) {
        CountedKeeper k = c.fresh("6: numbered from 0 as they come (those that are GONE, too)");
        c.due("0", k.add(0, NONE, 0), 0);
        k.undo();
        c.due("1, behind one that was undone", k.add(0, NONE, 0), 1);
        k.cut(1);
        c.due("2, behind one that was cut", k.add(0, NONE, 0), 2);
        c.due("3", k.add(0, NONE, 1), 3);
        k.join(2, 3);
        c.due("4, behind one that was joined", k.add(0, NONE, 1), 4);
        k.undo();
        k.undo();
        for (int x = 5; x < 120; x++) {
            k.add(0, NONE, 0);
        }
        c.due("in all", k.count(0), 120);
        c.due("there", k.count(1), 117);
        c.due("one more", k.add(0, NONE, 0), FULL);
        k.undo();
        c.due("one more when one is undone", k.add(0, NONE, 0), FULL);
        k.cut(2);
        c.due("one more when one is cut", k.add(0, NONE, 0), FULL);
        c.due("there", k.count(1), 115);
    }

    // ---- move

    private static void moveThings(Check c) {
        CountedKeeper k = small(c, "7: no such THING (that is there)");
        int[] none = {-1, -2, 6, 7, LEAST, MOST};
        for (int x : none) {
            c.due("move of " + x, k.move(x, NONE, 0), RANGE);
        }
        nothingWasDone(c, 6);
        c.due("the first", k.move(0, NONE, 1), 2);
        c.due("the last", k.move(5, NONE, 1), 2);
        c.due("entries", k.count(4), 8);
        k = withGone(c, "7: a THING that is GONE");
        for (int x : GONE) {
            c.due("move of " + x, k.move(x, NONE, 0), RANGE);
            c.due("move on " + x, k.move(0, x, 0), RANGE);
        }
        c.due("tree", c.tree(), "0:-1/0 3:-1/1");
        c.due("of one that is there", k.move(3, 0, 0), 1);
    }

    private static void moveOn(Check c) {
        CountedKeeper k = small(c, "7: on another one (NONE: the text)");
        int[] none = {-2, -3, -9, -10, 6, 7, LEAST, MOST};
        for (int on : none) {
            c.due("on " + on, k.move(5, on, 0), RANGE);
        }
        nothingWasDone(c, 6);
        k.move(5, 0, 0);
        c.due("on the first", c.tree(), "0:-1/0 5:0/0 1:0/1 2:1/0 3:1/1 4:0/2");
        k.move(1, 5, 0);
        c.due("on the last, with all below it", c.tree(), "0:-1/0 5:0/0 1:5/0 2:1/0 3:1/1 4:0/1");
        k.move(1, NONE, 1);
        c.due("on the text", c.tree(), "0:-1/0 5:0/0 4:0/1 1:-1/1 2:1/0 3:1/1");
    }

    private static void movePlacesOnTheSame(Check c) {
        CountedKeeper k = c.fresh("7: as the i-th then, on what it hangs on already");
        for (int x = 0; x < 4; x++) {
            k.add(0, NONE, x);
        }
        int[] none = {-1, 4, 5, LEAST, MOST};
        for (int i : none) {
            c.due("as " + i, k.move(1, NONE, i), RANGE);
        }
        c.due("order", c.order(), "0 1 2 3");
        c.due("as the last", k.move(1, NONE, 3), 3);
        c.due("order", c.order(), "0 2 3 1");
        c.due("as the first", k.move(1, NONE, 0), 4);
        c.due("order", c.order(), "1 0 2 3");
        c.due("as the third", k.move(1, NONE, 2), 3);
        c.due("order", c.order(), "0 2 1 3");
        c.due("as it is", k.move(1, NONE, 2), 0);
        c.due("order", c.order(), "0 2 1 3");
        c.due("entries", k.count(4), 8);
        k.add(1, 0, 0);
        c.due("a lone one as the first", k.move(4, 0, 0), 0);
        c.due("a lone one as the second", k.move(4, 0, 1), RANGE);
    }

    private static void movePlacesOnAnother(Check c) {
        CountedKeeper k = small(c, "7: as the i-th then, on another one");
        int[][] none = {{5, 0, -1}, {5, 0, 3}, {5, 4, 1}, {1, NONE, 3}, {1, NONE, -1}, {5, 0, MOST}, {5, 0, LEAST}};
        for (int[] w : none) {
            c.due("on " + w[1] + " as " + w[2], k.move(w[0], w[1], w[2]), RANGE);
        }
        nothingWasDone(c, 6);
        k.move(5, 0, 2);
        c.due("behind all", c.tree(), "0:-1/0 1:0/0 2:1/0 3:1/1 4:0/1 5:0/2");
        k.undo();
        k.move(1, NONE, 2);
        c.due("behind all of the text", c.tree(), "0:-1/0 4:0/0 5:-1/1 1:-1/2 2:1/0 3:1/1");
        k.move(5, 4, 0);
        c.due("on one without any", c.tree(), "0:-1/0 4:0/0 5:4/0 1:-1/1 2:1/0 3:1/1");
    }

    private static void moveBelowItself(Check c) {
        CountedKeeper k = small(c, "7: RANGE: it would hang below itself");
        c.due("on itself", k.move(0, 0, 0), RANGE);
        c.due("on one on it", k.move(0, 1, 0), RANGE);
        c.due("on one below that", k.move(0, 2, 0), RANGE);
        c.due("on the last below it", k.move(0, 4, 0), RANGE);
        c.due("on itself, without any on it", k.move(2, 2, 0), RANGE);
        nothingWasDone(c, 6);
        c.due("on what it hangs on", k.move(2, 1, 1), 0);
        c.due("on what that hangs on", k.move(2, 0, 0), 1);
        c.due("on one beside it", k.move(1, 2, 0), 1);
        c.due("tree", c.tree(), "0:-1/0 2:0/0 1:2/0 3:1/0 4:0/1 5:-1/1");

        k = c.fresh("7: below itself, 120 deep");
        int on = NONE;
        for (int x = 0; x < 120; x++) {
            on = k.add(0, on, 0);
        }
        c.due("the first on the last", k.move(0, 119, 0), RANGE);
        c.due("the second on the last", k.move(1, 119, 0), RANGE);
        c.due("the last on the first", k.move(119, 0, 1), 1);
    }

    private static void moveTellsNumbers(Check c) {
        CountedKeeper k = c.fresh("7: how many THINGS that are there have another NUMBER than before");
        for (int x = 0; x < 5; x++) {
            k.add(0, NONE, x);
        }
        c.due("none", k.move(4, NONE, 4), 0);
        c.due("two", k.move(4, NONE, 3), 2);
        c.due("all", k.move(4, NONE, 0), 4);
        k.cut(4);
        c.due("gone ones do not", k.move(3, NONE, 0), 4);
        c.due("the moved one and the one behind it", k.move(1, 3, 0), 2);
        k.form(0, 1, 0, 1);
        c.due("by the base alone", k.move(1, NONE, 1), 1);
        c.word(0, "P");
        c.due("words are none", k.move(1, NONE, 1), 0);
        k.form(0, 0, 3, 0);
        c.due("forms of before are not of this move", k.move(1, NONE, 1), 0);
    }

    // ---- cut

    private static void cutThings(Check c) {
        CountedKeeper k = small(c, "8: RANGE: no such THING");
        int[] none = {-1, -2, 6, 7, LEAST, MOST};
        for (int x : none) {
            c.due("cut of " + x, k.cut(x), RANGE);
        }
        nothingWasDone(c, 6);
        c.due("the last", k.cut(5), 1);
        c.due("it again", k.cut(5), RANGE);
        c.due("the first", k.cut(0), 5);
        for (int x = 0; x < 6; x++) {
            c.due("cut of " + x + " that is gone", k.cut(x), RANGE);
        }
        c.due("counts", c.counts(), "6 0 0 0 8 0");
        k = withGone(c, "8: a THING that is GONE");
        for (int x : GONE) {
            c.due("cut of " + x, k.cut(x), RANGE);
        }
        c.due("order", c.order(), "0 3");
    }

    private static void cutTellsHowMany(Check c) {
        CountedKeeper k = small(c, "8: A THING and all below it are GONE: how many");
        c.due("one without any", k.cut(2), 1);
        c.due("gone ones are not cut again", k.cut(1), 2);
        c.due("and all below", k.cut(0), 2);
        c.due("there", c.tree(), "5:-1/0");

        k = c.fresh("8: 120 are GONE at once");
        int on = NONE;
        for (int x = 0; x < 120; x++) {
            on = k.add(0, on, 0);
        }
        c.due("all", k.cut(0), 120);
        c.due("none is there", k.at(0), NONE);
        c.due("none is there", k.count(1), 0);
        c.due("undo", k.undo(), 120);
        c.due("all are there", k.count(1), 120);
        c.due("the deepest", k.thing(119, 1), 118);
    }

    // ---- join

    private static void joinNeighbours(Check c) {
        CountedKeeper k = c.fresh("9: the one just ahead of it");
        k.add(0, NONE, 0);
        k.add(0, NONE, 1);
        k.add(0, NONE, 2);
        k.add(1, NONE, 3);
        k.add(0, NONE, 4);
        int[][] none = {{0, 0}, {1, 0}, {2, 1}, {0, 2}, {2, 0}, {2, 4}, {4, 2}};
        for (int[] w : none) {
            c.due("join " + w[0] + " " + w[1], k.join(w[0], w[1]), RANGE);
        }
        c.due("order", c.order(), "0 1 2 3 4");
        c.due("entries", k.count(4), 5);
        c.due("just ahead", k.join(1, 2), 0);
        c.due("just ahead now", k.join(0, 1), 0);
        k.cut(3);
        c.due("just ahead then", k.join(0, 4), 0);
        c.due("order", c.order(), "0");
        c.due("joined", k.thing(2, 7) * 100 + k.thing(1, 7) * 10 + k.thing(4, 7), 100);
    }

    private static void joinKinds(Check c) {
        CountedKeeper k = c.fresh("9: of the same KIND");
        for (int kind = 0; kind < 6; kind++) {
            k.add(kind, NONE, kind);
        }
        for (int x = 0; x < 5; x++) {
            c.due("join of " + x + " and the next", k.join(x, x + 1), RANGE);
        }
        k.add(5, NONE, 6);
        c.due("of kind 5", k.join(5, 6), 0);
        k.add(0, NONE, 0);
        c.due("of kind 0", k.join(7, 0), 0);
    }

    private static void joinOnTheSame(Check c) {
        CountedKeeper k = c.fresh("9: that hangs on the same");
        // 0 (1, 2), 3 (4), 5: all of kind 0.
        k.add(0, NONE, 0);
        k.add(0, 0, 0);
        k.add(0, 0, 1);
        k.add(0, NONE, 1);
        k.add(0, 3, 0);
        k.add(0, NONE, 2);
        int[][] none = {{0, 1}, {2, 3}, {2, 4}, {3, 4}, {4, 5}, {1, 4}};
        for (int[] w : none) {
            c.due("join " + w[0] + " " + w[1], k.join(w[0], w[1]), RANGE);
        }
        c.due("with all below between them in the order", k.join(0, 3), 3);
        c.due("tree", c.tree(), "0:-1/0 1:0/0 2:0/1 4:0/2 5:-1/1");
        c.due("what came is beside it", k.join(2, 4), 0);
    }

    private static void joinThatAreThere(Check c) {
        CountedKeeper k = small(c, "9: RANGE: no such two");
        int[] none = {-1, -2, 6, 7, LEAST, MOST};
        for (int x : none) {
            c.due("join " + x + " 5", k.join(x, 5), RANGE);
            c.due("join 0 " + x, k.join(0, x), RANGE);
            c.due("join " + x + " twice", k.join(x, x), RANGE);
        }
        nothingWasDone(c, 6);
        k = withGone(c, "9: two of which one is GONE");
        for (int x : GONE) {
            c.due("join 0 " + x, k.join(0, x), RANGE);
            c.due("join " + x + " 3", k.join(x, 3), RANGE);
        }
        c.due("two that are there", k.join(0, 3), 0);
    }

    private static void joinTellsHowMany(Check c) {
        CountedKeeper k = c.fresh("9: what hangs on y comes behind what hangs on x, how many hang on x then");
        for (int x = 0; x < 5; x++) {
            k.add(0, NONE, x);
        }
        k.add(1, 1, 0);
        k.add(1, 2, 0);
        k.add(1, 6, 0);
        k.add(1, 2, 1);
        c.due("none on both", k.join(3, 4), 0);
        c.due("some on y alone", k.join(0, 1), 1);
        c.due("some on both", k.join(0, 2), 3);
        c.due("tree", c.tree(), "0:-1/0 5:0/0 6:0/1 7:6/0 8:0/2 3:-1/1");
        c.due("some on x alone", k.join(0, 3), 3);
        c.due("thing tells it", k.thing(0, 3), 3);
    }

    // ---- the log

    /** A log of 199 entries on two things, 0 ahead of 1. */
    private static CountedKeeper almostFullLog(Check c, String name) {
        CountedKeeper k = c.fresh(name);
        k.add(0, NONE, 0);
        k.add(0, NONE, 1);
        for (int n = 2; n < 199; n++) {
            k.move(0, NONE, 0);
        }
        c.due("log", k.count(4), 199);
        return k;
    }

    private static void logOf200(Check c) {
        CountedKeeper k = almostFullLog(c, "THE LOG, at most 200: add is the last");
        c.due("the 200th", k.add(0, NONE, 2), 2);
        c.due("the 201st", k.add(0, NONE, 3), FULL);
        c.due("in all", k.count(0), 3);
        k = almostFullLog(c, "THE LOG, at most 200: move is the last");
        c.due("the 200th", k.move(0, NONE, 1), 2);
        c.due("the 201st", k.move(0, NONE, 0), FULL);
        c.due("order", c.order(), "1 0");
        k = almostFullLog(c, "THE LOG, at most 200: cut is the last");
        c.due("the 200th", k.cut(0), 1);
        c.due("the 201st", k.cut(1), FULL);
        c.due("order", c.order(), "1");
        k = almostFullLog(c, "THE LOG, at most 200: join is the last");
        k.undo();
        k.add(0, NONE, 2);
        c.due("the 200th", k.join(0, 1), 0);
        c.due("the 201st", k.join(0, 2), FULL);
        c.due("order", c.order(), "0 2");
        c.due("joined", k.thing(2, 7), NONE);
        c.due("log", k.count(4), 200);
        c.due("undo makes room", k.undo(), 199);
        c.due("the 200th again", k.join(0, 1), 0);
        c.due("the 201st again", k.join(0, 2), FULL);
    }

    private static void fullLogBehindOthers(Check c) {
        CountedKeeper k = almostFullLog(c, "FULL, behind all other refusals");
        k.move(0, NONE, 0);
        c.due("log", k.count(4), 200);
        int[][] adds = {{6, NONE, 0}, {-1, NONE, 0}, {0, 2, 0}, {0, -2, 0}, {0, NONE, 3}, {0, NONE, -1}};
        for (int[] w : adds) {
            c.due("add", k.add(w[0], w[1], w[2]), RANGE);
        }
        int[][] moves = {{2, NONE, 0}, {-1, NONE, 0}, {0, 2, 0}, {0, NONE, 2}, {0, NONE, -1}, {0, 0, 0}, {0, 1, 1}};
        for (int[] w : moves) {
            c.due("move", k.move(w[0], w[1], w[2]), RANGE);
        }
        c.due("cut", k.cut(2), RANGE);
        c.due("join of others", k.join(0, 2), RANGE);
        c.due("join the wrong way", k.join(1, 0), RANGE);
        c.due("add", k.add(0, NONE, 2), FULL);
        c.due("move", k.move(0, 1, 0), FULL);
        c.due("move to where it is", k.move(0, NONE, 0), FULL);
        c.due("cut", k.cut(1), FULL);
        c.due("join", k.join(0, 1), FULL);
        c.due("nothing was done", c.tree(), "0:-1/0 1:-1/1");
        c.due("log", k.count(4), 200);
        c.due("what is no change is done", k.mention(0, 0, 1), 0);
        c.due("what is no change is done", k.edition(), 0);
        c.due("what is no change is done", k.form(0, 1, 0, 0), 1);
    }

    private static void logAndThingsFull(Check c) {
        CountedKeeper k = c.fresh("120 THINGS and 200 entries");
        for (int x = 0; x < 120; x++) {
            k.add(0, NONE, x);
        }
        for (int n = 120; n < 200; n++) {
            c.due("move", k.move(119, NONE, 119), 0);
        }
        c.due("add", k.add(0, NONE, 0), FULL);
        c.due("wrong add", k.add(0, NONE, 121), RANGE);
        c.due("move", k.move(119, NONE, 119), FULL);
        c.due("undo", k.undo(), 199);
        c.due("add still", k.add(0, NONE, 0), FULL);
        c.due("move", k.move(119, NONE, 0), 120);
        c.due("counts", c.counts(), "120 120 0 0 200 0");
    }

    private static void noEntries(Check c) {
        CountedKeeper k = small(c, "MENTIONS, EDITIONS, FORMS are no CHANGES, nor are calls that are refused");
        k.mention(0, 0, 1);
        k.range(0, 0, 0, 2);
        k.edition();
        k.frozen(0, 1, 0);
        k.form(0, 1, 1, 1);
        c.word(0, "P");
        c.read(0, "P 1");
        k.cut(9);
        k.join(0, 1);
        k.move(0, 1, 0);
        k.add(9, NONE, 0);
        c.due("log", k.count(4), 6);
        c.due("undo undoes the latest change", k.undo(), 5);
        c.due("tree", c.tree(), "0:-1/0 1:0/0 2:1/0 3:1/1 4:0/1");
    }

    // ---- undo

    private static void undoOfNothing(Check c) {
        CountedKeeper k = c.fresh("10: NONE when it has none");
        c.due("at first", k.undo(), NONE);
        k.add(0, NONE, 0);
        c.due("one", k.undo(), 0);
        c.due("none again", k.undo(), NONE);
        c.due("and again", k.undo(), NONE);
        c.due("counts", c.counts(), "1 0 0 0 0 0");
        c.due("the next", k.add(0, NONE, 0), 1);
        c.due("log", k.count(4), 1);
    }

    private static void undoOfEach(Check c) {
        CountedKeeper k = small(c, "10: The latest CHANGE is undone");
        k.add(0, 1, 1);
        c.due("add", k.undo(), 6);
        c.due("tree", c.tree(), SMALL);
        k.move(1, NONE, 0);
        c.due("move to the text", k.undo(), 6);
        c.due("tree", c.tree(), SMALL);
        k.move(0, NONE, 1);
        c.due("move on the same", k.undo(), 6);
        c.due("tree", c.tree(), SMALL);
        k.move(0, NONE, 0);
        c.due("move to where it was", k.undo(), 6);
        c.due("tree", c.tree(), SMALL);
        k.cut(0);
        c.due("cut", k.undo(), 6);
        c.due("tree", c.tree(), SMALL);
        k.join(0, 5);
        c.due("join", k.undo(), 6);
        c.due("tree", c.tree(), SMALL);
        c.due("not joined", k.thing(5, 7), NONE);

        k = c.fresh("10: a join is undone");
        k.add(0, NONE, 0);
        k.add(0, NONE, 1);
        k.add(1, 0, 0);
        k.add(1, 1, 0);
        k.add(1, 1, 1);
        k.add(0, NONE, 2);
        k.join(0, 1);
        k.move(4, 0, 0);
        k.cut(3);
        k.join(0, 5);
        c.due("tree", c.tree(), "0:-1/0 4:0/0 2:0/1");
        c.due("undo of the second join", k.undo(), 9);
        c.due("undo of the cut", k.undo(), 8);
        c.due("undo of the move", k.undo(), 7);
        c.due("tree", c.tree(), "0:-1/0 2:0/0 3:0/1 4:0/2 5:-1/1");
        c.due("undo of the first join", k.undo(), 6);
        c.due("tree", c.tree(), "0:-1/0 2:0/0 1:-1/1 3:1/0 4:1/1 5:-1/2");

        k = c.fresh("10: a join is undone, where none hung on x");
        k.add(0, NONE, 0);
        k.add(0, NONE, 1);
        k.add(1, 1, 0);
        k.add(1, 1, 1);
        c.due("join", k.join(0, 1), 2);
        c.due("undo", k.undo(), 4);
        c.due("tree", c.tree(), "0:-1/0 1:-1/1 2:1/0 3:1/1");
        c.due("on x", k.thing(0, 3), 0);
        c.due("on y", k.thing(1, 3), 2);
    }

    private static void undoneNumbers(Check c) {
        CountedKeeper k = c.fresh("10: The THING of an add() that is undone is GONE; its number is not used again");
        k.add(0, NONE, 0);
        k.add(0, NONE, 1);
        k.undo();
        c.due("gone", c.thing(1), "0 -9 -9 0 0 -1 0 -1 -1");
        c.due("the next", k.add(3, NONE, 1), 2);
        c.due("still gone", k.thing(1, 6), 0);
        k.undo();
        k.undo();
        c.due("all gone", k.count(1), 0);
        c.due("in all", k.count(0), 3);
        c.due("the next", k.add(0, NONE, 0), 3);
    }

    private static void undoLeavesTheRest(Check c) {
        CountedKeeper k = c.fresh("10: MENTIONS, EDITIONS, FORMS stay");
        k.add(0, NONE, 0);
        k.add(0, NONE, 1);
        k.form(0, 1, 3, 2);
        c.word(0, "Part");
        k.mention(0, 0, 1);
        k.edition();
        k.undo();
        c.due("counts", c.counts(), "2 1 1 1 1 0");
        c.due("forms", k.count(10) * 1000 + k.count(20) * 100 + k.count(30) * 10 + k.count(40), 1324);
        c.due("the mention of what is gone", c.about(0), "0 0 -1 0 1 0");
        c.due("the edition had it", k.leads(0, 1), NONE);
        k.undo();
        c.due("the mention in what is gone", c.about(0), "0 0 -1 0 1 0");
        c.due("counts", c.counts(), "2 0 1 1 0 0");
    }

    private static void undoAll200(Check c) {
        CountedKeeper k = almostFullLog(c, "10: how many entries THE LOG has, from 200 down");
        k.cut(0);
        c.due("full", k.cut(1), FULL);
        for (int left = 199; left >= 0; left--) {
            c.due("undo", k.undo(), left);
        }
        c.due("none", k.undo(), NONE);
        c.due("nothing is there", k.at(0), NONE);
    }

    // ---- what is told of things

    private static void thingsThatAreThere(Check c) {
        CountedKeeper k = small(c, "11: Of THING x, what 0 .. 8");
        c.due("0", c.thing(0), "0 -1 0 2 1 0 1 -1 -1");
        c.due("1", c.thing(1), "0 0 0 2 1 1 1 -1 0");
        c.due("3", c.thing(3), "1 1 1 0 1 3 1 -1 1");
        c.due("4", c.thing(4), "1 0 1 0 1 4 1 -1 0");
        c.due("5", c.thing(5), "0 -1 1 0 2 5 1 -1 -1");
        k.join(0, 5);
        c.due("one into which another was joined", c.thing(0), "0 -1 0 2 1 0 1 -1 -1");
    }

    private static void thingsThatAreGone(Check c) {
        CountedKeeper k = small(c, "11: (-9 when GONE), (0 when GONE), (NONE when GONE)");
        k.cut(1);
        c.due("cut, with two below", c.thing(1), "0 -9 -9 0 0 -1 0 -1 -1");
        c.due("below it", c.thing(2), "0 -9 -9 0 0 -1 0 -1 -1");
        c.due("below it", c.thing(3), "1 -9 -9 0 0 -1 0 -1 -1");
        k.undo();
        c.due("there again", c.thing(1), "0 0 0 2 1 1 1 -1 0");
        k.join(0, 5);
        c.due("joined", c.thing(5), "0 -9 -9 0 0 -1 0 0 -1");
        k.cut(0);
        c.due("joined into one that is gone", c.thing(5), "0 -9 -9 0 0 -1 0 0 -1");
        k.undo();
        k.undo();
        c.due("joined no more", c.thing(5), "0 -1 1 0 2 5 1 -1 -1");
        k.undo();
        c.due("never to be", c.thing(5), "0 -9 -9 0 0 -1 0 -1 -1");

        k = c.fresh("11: into which it was JOINED, and that one was");
        for (int x = 0; x < 3; x++) {
            k.add(0, NONE, x);
        }
        k.join(1, 2);
        k.join(0, 1);
        c.due("2 into 1", k.thing(2, 7), 1);
        c.due("1 into 0", k.thing(1, 7), 0);
        c.due("0 into none", k.thing(0, 7), NONE);
    }

    private static void noSuchThings(Check c) {
        CountedKeeper k = small(c, "11: -10 when there is none such");
        int[] none = {-1, -2, -10, 6, 7, 119, 120, LEAST, MOST};
        for (int x : none) {
            c.due("thing " + x, c.thing(x), "-10 -10 -10 -10 -10 -10 -10 -10 -10");
        }
        int[] whats = {-1, 9, 10, LEAST, MOST};
        for (int what : whats) {
            c.due("what " + what, k.thing(0, what), -10);
            c.due("what " + what + " of the last", k.thing(5, what), -10);
        }
        k.cut(5);
        c.due("what 9 of a gone one", k.thing(5, 9), -10);
        c.due("what -1 of a gone one", k.thing(5, -1), -10);
    }

    private static void placesOfOrder(Check c) {
        CountedKeeper k = small(c, "12: The THING at a place of the ORDER; NONE");
        c.due("the first", k.at(0), 0);
        c.due("the last", k.at(5), 5);
        int[] none = {-1, 6, 7, LEAST, MOST};
        for (int place : none) {
            c.due("place " + place, k.at(place), NONE);
        }
        k.cut(1);
        c.due("behind a gone one", k.at(1), 4);
        c.due("the last", k.at(2), 5);
        c.due("behind it", k.at(3), NONE);
        k.cut(0);
        k.cut(5);
        c.due("of nothing", k.at(0), NONE);

        k = c.fresh("12: 120 places");
        for (int x = 0; x < 120; x++) {
            k.add(0, NONE, 0);
        }
        c.due("the first", k.at(0), 119);
        c.due("the last", k.at(119), 0);
        c.due("behind it", k.at(120), NONE);
    }

    private static void bytesOfTold(Check c) {
        CountedKeeper k = small(c, "13: Byte i of how a THING is TOLD; NONE: none such, or it is GONE");
        c.word(0, "Part");
        c.due("the first", k.told(5, 0), 'P');
        c.due("the last", k.told(5, 5), '2');
        int[] none = {-1, 6, 7, LEAST, MOST};
        for (int i : none) {
            c.due("byte " + i, k.told(5, i), NONE);
        }
        int[] things = {-1, -2, 6, 120, LEAST, MOST};
        for (int x : things) {
            c.due("of " + x, k.told(x, 0), NONE);
        }
        k.cut(5);
        c.due("of a gone one", k.told(5, 0), NONE);
        k.undo();
        c.due("there again", k.told(5, 5), '2');
        k.join(0, 5);
        c.due("of a joined one", k.told(5, 0), NONE);
        k.undo();
        k.undo();
        c.due("of one that was undone", k.told(5, 0), NONE);
    }

    private static void twinsOfNone(Check c) {
        CountedKeeper k = c.fresh("14: pairs of THINGS of one KIND that are there have one NUMBER");
        c.due("of nothing", k.twins(), 0);
        k.add(0, NONE, 0);
        c.due("of one", k.twins(), 0);
        k.add(1, NONE, 1);
        c.due("of two kinds", k.twins(), 0);
        k.add(0, 0, 0);
        c.due("of one kind", k.twins(), 1);
        k.form(0, 0, 0, 1);
        c.due("with other numbers", k.twins(), 0);
        k.form(0, 0, 0, 0);
        k.cut(2);
        c.due("with a gone one", k.twins(), 0);
        k.undo();
        c.word(0, "P");
        c.due("words are nothing to it", k.twins(), 1);
    }

    private static void twinsOfMany(Check c) {
        CountedKeeper k = c.fresh("14: the most pairs that there can be");
        int on = NONE;
        for (int x = 0; x < 120; x++) {
            on = k.add(0, on, 0);
        }
        c.due("120 with the number 1", k.twins(), 7140);
        k.form(0, 1, 0, 0);
        c.due("120 with other numbers", k.twins(), 0);
    }
}
