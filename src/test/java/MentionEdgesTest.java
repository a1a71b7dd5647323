/** The boundary cases of promises 15 to 20 and of Terms II: each part bears the sentence that it tests. */
public final class MentionEdgesTest {
    private static final int NONE = NumberKeeper.NONE;
    private static final int RANGE = NumberKeeper.RANGE;
    private static final int FULL = NumberKeeper.FULL;
    private static final int LEAST = Integer.MIN_VALUE;
    private static final int MOST = Integer.MAX_VALUE;

    public static void main(String[] args) {
        Check c = new Check("MentionEdgesTest");
        mentionIn(c);
        mentionKinds(c);
        mentionOfThings(c);
        mentionOfKinds(c);
        mentionsInAndOfGone(c);
        rangeIn(c);
        rangeKinds(c);
        rangePlaces(c);
        rangeOf2To12(c);
        frozenArguments(c);
        frozenOfWhatWasThere(c);
        hundredMentions(c);
        fullByEach(c);
        nextOne(c);
        latestOne(c);
        nextAndLatestOfNothing(c);
        joinedAndSoOn(c);
        longestLead(c);
        runsByCount(c);
        runsByBase(c);
        runsOfLongBases(c);
        mostRuns(c);
        runsInOrder(c);
        runsOfJoined(c);
        runsOfGone(c);
        noTextOfGone(c);
        noTextOfNone(c);
        noTextInGone(c);
        frozenAlwaysHas(c);
        aboutKinds(c);
        aboutNone(c);
        bytesOfText(c);
        troubleOfEach(c);
        troubleInGone(c);
        c.finish();
    }

    /** Four on the text, of which 1 is joined into 0, 2 is cut and 4 was never to be; 0 and 3 are there. */
    private static CountedKeeper withGone(Check c, String name) {
        CountedKeeper k = c.fresh(name);
        for (int x = 0; x < 4; x++) {
            k.add(0, NONE, x);
        }
        k.edition();
        k.join(0, 1);
        k.cut(2);
        k.add(0, NONE, 0);
        k.undo();
        return k;
    }

    private static final int[] GONE = {1, 2, 4};

    /** So many on the text, all of kind 0. */
    private static CountedKeeper flat(Check c, String name, int many) {
        CountedKeeper k = c.fresh(name);
        for (int x = 0; x < many; x++) {
            k.add(0, NONE, x);
        }
        return k;
    }

    // ---- mention

    private static void mentionIn(Check c) {
        CountedKeeper k = flat(c, "15: A MENTION in a THING; RANGE: no such THINGS", 3);
        int[] none = {-1, -2, 3, 4, LEAST, MOST};
        for (int in : none) {
            c.due("0 in " + in, k.mention(in, 0, 0), RANGE);
            c.due("2 in " + in, k.mention(in, 2, 0), RANGE);
            c.due("3 in " + in, k.mention(in, 3, 0), RANGE);
        }
        c.due("none was made", k.count(2), 0);
        c.due("in the first", k.mention(0, 0, 2), 0);
        c.due("in the last", k.mention(2, 0, 0), 1);
    }

    private static void mentionKinds(Check c) {
        CountedKeeper k = flat(c, "15: RANGE: no such kind", 3);
        int[] none = {-1, 1, 4, 5, 6, LEAST, MOST};
        for (int kind : none) {
            c.due("kind " + kind, k.mention(0, kind, 0), RANGE);
        }
        c.due("none was made", k.count(2), 0);
        c.due("kind 0", k.mention(0, 0, 0), 0);
        c.due("kind 2", k.mention(0, 2, 0), 1);
        c.due("kind 3", k.mention(0, 3, 0), 2);
        c.due("kinds", k.about(0, 0) * 100 + k.about(1, 0) * 10 + k.about(2, 0), 23);
    }

    private static void mentionOfThings(Check c) {
        CountedKeeper k = flat(c, "15: kind 0: of THING of", 8);
        int[] none = {-1, -2, 8, 9, LEAST, MOST};
        for (int of : none) {
            c.due("of " + of, k.mention(0, 0, of), RANGE);
        }
        c.due("of the first", k.mention(7, 0, 0), 0);
        c.due("of the last", k.mention(0, 0, 7), 1);
        c.due("of itself", k.mention(7, 0, 7), 2);
        c.due("its text", c.text(2), "8");
    }

    private static void mentionOfKinds(Check c) {
        CountedKeeper k = flat(c, "15: 2, 3: of a KIND of", 8);
        int[] none = {-1, 6, 7, LEAST, MOST};
        for (int of : none) {
            c.due("the next of " + of, k.mention(0, 2, of), RANGE);
            c.due("the latest of " + of, k.mention(0, 3, of), RANGE);
        }
        c.due("the next of 0", k.mention(0, 2, 0), 0);
        c.due("the next of 5", k.mention(0, 2, 5), 1);
        c.due("the latest of 0", k.mention(7, 3, 0), 2);
        c.due("the latest of 5", k.mention(7, 3, 5), 3);
        c.due("texts", c.text(0) + "," + c.text(1) + "," + c.text(2) + "," + c.text(3), "2,,7,");
    }

    private static void mentionsInAndOfGone(Check c) {
        CountedKeeper k = withGone(c, "15: RANGE: THINGS that are GONE");
        for (int x : GONE) {
            c.due("in " + x, k.mention(x, 0, 0), RANGE);
            c.due("the next in " + x, k.mention(x, 2, 0), RANGE);
            c.due("of " + x, k.mention(0, 0, x), RANGE);
            c.due("a range in " + x, k.range(x, 0, 0, 1), RANGE);
            c.due("a frozen one in " + x, k.frozen(x, 0, 0), RANGE);
        }
        c.due("in and of ones that are there", k.mention(0, 0, 3), 0);
    }

    // ---- range

    private static void rangeIn(Check c) {
        CountedKeeper k = flat(c, "16: A RANGE in a THING; RANGE: no such", 3);
        int[] none = {-1, -2, 3, 4, LEAST, MOST};
        for (int in : none) {
            c.due("in " + in, k.range(in, 0, 0, 2), RANGE);
        }
        c.due("in the first", k.range(0, 0, 0, 2), 0);
        c.due("in the last", k.range(2, 0, 0, 2), 1);
    }

    private static void rangeKinds(Check c) {
        CountedKeeper k = c.fresh("16: that are of a KIND; RANGE: no such");
        for (int i = 0; i < 12; i++) {
            k.add(i % 6, NONE, i);
        }
        int[] none = {-1, 6, 7, LEAST, MOST};
        for (int kind : none) {
            c.due("kind " + kind, k.range(0, kind, 0, 11), RANGE);
        }
        c.due("kind 0", k.range(0, 0, 0, 6), 0);
        c.due("kind 0 with one too few", k.range(0, 0, 0, 5), RANGE);
        c.due("kind 0 with one too few", k.range(0, 0, 1, 6), RANGE);
        c.due("kind 5", k.range(0, 5, 5, 11), 1);
        c.due("kind 5 with one too few", k.range(0, 5, 6, 11), RANGE);
        c.due("kind 5 with one too few", k.range(0, 5, 5, 10), RANGE);
        c.due("what it means", c.about(1), "1 0 5 1 0 6");
    }

    private static void rangePlaces(Check c) {
        CountedKeeper k = flat(c, "16: from place a to place b of the ORDER; RANGE: no such", 4);
        int[][] none = {{-1, 3}, {LEAST, 3}, {0, 4}, {0, MOST}, {LEAST, MOST}, {3, 0}, {1, 0}, {4, 5}, {-2, -1}, {0, -1},
            {MOST, LEAST}, {2, 4}, {-1, 0}};
        for (int[] w : none) {
            c.due("from " + w[0] + " to " + w[1], k.range(0, 0, w[0], w[1]), RANGE);
        }
        c.due("none was made", k.count(2), 0);
        c.due("from the first to the last", k.range(0, 0, 0, 3), 0);
        c.due("text", c.text(0), "1 to 4");
        c.due("the first two", k.range(0, 0, 0, 1), 1);
        c.due("text", c.text(1), "1 to 2");
        c.due("the last two", k.range(0, 0, 2, 3), 2);
        c.due("text", c.text(2), "3 to 4");
        // The places are those of the ORDER, not numbers of THINGS.
        k.move(3, NONE, 0);
        c.due("the first two then", k.range(0, 0, 0, 1), 3);
        c.due("the first of them", k.about(3, 2), 3);
    }

    private static void rangeOf2To12(Check c) {
        CountedKeeper k = flat(c, "16: RANGE: these are not 2 .. 12", 14);
        k.add(1, NONE, 0);
        k.add(1, NONE, 8);
        // The places: 0 of kind 1, 1 .. 7 of kind 0, 8 of kind 1, 9 .. 15 of kind 0.
        c.due("none", k.range(0, 0, 0, 0), RANGE);
        c.due("one", k.range(0, 0, 1, 1), RANGE);
        c.due("one and one of another kind", k.range(0, 0, 7, 8), RANGE);
        c.due("two", k.range(0, 0, 1, 2), 0);
        c.due("two with one between", k.range(0, 0, 7, 9), 1);
        c.due("twelve", k.range(0, 0, 1, 13), 2);
        c.due("thirteen", k.range(0, 0, 1, 14), RANGE);
        c.due("fourteen", k.range(0, 0, 0, 15), RANGE);
        c.due("twelve, the last ones", k.range(0, 0, 3, 15), 3);
        c.due("two among sixteen", k.range(0, 1, 0, 15), 4);
        c.due("made", k.count(2), 5);
        c.due("texts", c.text(0) + "; " + c.text(1) + "; " + c.text(2) + "; " + c.text(3) + "; " + c.text(4),
                "1 to 2; 7 to 8; 1 to 12; 3 to 14; 1 to 2");
    }

    // ---- frozen

    private static void frozenArguments(Check c) {
        CountedKeeper k = flat(c, "17: in a THING, of a THING that EDITION e had: its number; RANGE", 3);
        c.due("without an edition", k.frozen(0, 0, 0), RANGE);
        k.edition();
        k.edition();
        int[] none = {-1, -2, 3, 4, LEAST, MOST};
        for (int x : none) {
            c.due("in " + x, k.frozen(x, 0, 0), RANGE);
            c.due("of " + x, k.frozen(0, x, 0), RANGE);
        }
        int[] editions = {-1, 2, 3, 8, LEAST, MOST};
        for (int e : editions) {
            c.due("of edition " + e, k.frozen(0, 0, e), RANGE);
        }
        c.due("none was made", k.count(2), 0);
        c.due("the first of the first", k.frozen(2, 0, 0), 0);
        c.due("the last of the last", k.frozen(0, 2, 1), 1);
        c.due("texts", c.text(0) + c.text(1), "13");
    }

    private static void frozenOfWhatWasThere(Check c) {
        CountedKeeper k = withGone(c, "17: of a THING that EDITION e had");
        c.due("of one that was joined since", k.frozen(0, 1, 0), 0);
        c.due("of one that was cut since", k.frozen(0, 2, 0), 1);
        c.due("of one that came since", k.frozen(0, 4, 0), RANGE);
        c.due("a second edition", k.edition(), 1);
        c.due("of one that it did not have", k.frozen(0, 1, 1), RANGE);
        c.due("of one that it did not have", k.frozen(0, 2, 1), RANGE);
        c.due("of one that it had", k.frozen(0, 3, 1), 2);
        c.due("texts", c.text(0) + c.text(1) + c.text(2), "232");
        k.add(0, NONE, 0);
        c.due("of one that came since", k.frozen(0, 5, 1), RANGE);
    }

    // ---- at most 100

    private static void hundredMentions(Check c) {
        CountedKeeper k = flat(c, "MENTIONS, at most 100, numbered from 0 as they come", 3);
        k.edition();
        for (int m = 0; m < 99; m++) {
            c.due("mention", k.mention(0, 0, 1), m);
        }
        c.due("the 100th", k.frozen(0, 1, 0), 99);
        c.due("the 101st", k.mention(0, 0, 1), FULL);
        c.due("the 101st of a kind", k.mention(0, 2, 0), FULL);
        c.due("the 101st as a range", k.range(0, 0, 0, 1), FULL);
        c.due("the 101st as a frozen one", k.frozen(0, 1, 0), FULL);
        c.due("a wrong thing", k.mention(3, 0, 1), RANGE);
        c.due("a wrong kind", k.mention(0, 1, 1), RANGE);
        c.due("a wrong range", k.range(0, 0, 0, 0), RANGE);
        c.due("a wrong frozen one", k.frozen(0, 1, 1), RANGE);
        c.due("count", k.count(2), 100);
        c.due("the last one", k.about(99, 0), 4);
        c.due("behind it", k.about(100, 0), -10);
        k.cut(0);
        c.due("no room comes of things that go", k.mention(1, 0, 1), FULL);
    }

    private static void fullByEach(Check c) {
        for (int by = 0; by < 3; by++) {
            CountedKeeper k = flat(c, "MENTIONS, at most 100: the last one by call " + by, 3);
            k.edition();
            for (int m = 0; m < 99; m++) {
                k.mention(0, 2, 0);
            }
            for (int m = 99; m < 101; m++) {
                int got = by == 0 ? k.mention(0, 3, 0) : by == 1 ? k.range(0, 0, 0, 1) : k.frozen(0, 1, 0);
                c.due("mention " + m, got, m == 99 ? 99 : FULL);
            }
            c.due("count", k.count(2), 100);
        }
    }

    // ---- the next and the latest one

    /** 0 (1 (2, 3), 4), 5: all of kind 0 but 2 and 4, of kind 1. */
    private static CountedKeeper small(Check c, String name) {
        CountedKeeper k = c.fresh(name);
        k.add(0, NONE, 0);
        k.add(0, 0, 0);
        k.add(1, 1, 0);
        k.add(0, 1, 1);
        k.add(1, 0, 1);
        k.add(0, NONE, 1);
        return k;
    }

    private static void nextOne(Check c) {
        CountedKeeper k = small(c, "2 the next one of a KIND behind its place (not the THING itself)");
        int[][] due = {{1, 2}, {3, 2}, {3, 4}, {5, 4}, {5, NONE}, {NONE, NONE}};
        for (int x = 0; x < 6; x++) {
            for (int kind = 0; kind < 2; kind++) {
                int m = k.mention(x, 2, kind);
                c.due("in " + x + " of kind " + kind, k.about(m, 2), due[x][kind]);
                c.due("runs", k.about(m, 3), due[x][kind] == NONE ? 0 : 1);
            }
        }
    }

    private static void latestOne(Check c) {
        CountedKeeper k = small(c, "3 the latest one of a KIND ahead of its place (what it hangs on counts, too)");
        int[][] due = {{NONE, NONE}, {0, NONE}, {1, NONE}, {1, 2}, {3, 2}, {3, 4}};
        for (int x = 0; x < 6; x++) {
            for (int kind = 0; kind < 2; kind++) {
                int m = k.mention(x, 3, kind);
                c.due("in " + x + " of kind " + kind, k.about(m, 2), due[x][kind]);
                c.due("runs", k.about(m, 3), due[x][kind] == NONE ? 0 : 1);
            }
        }
    }

    private static void nextAndLatestOfNothing(Check c) {
        CountedKeeper k = flat(c, "the next and the latest in a lone THING", 1);
        k.mention(0, 2, 0);
        k.mention(0, 3, 0);
        c.due("the next", c.about(0), "2 0 -1 0 0 0");
        c.due("the latest", c.about(1), "3 0 -1 0 0 0");
        k.add(0, 0, 0);
        c.due("the next on it", c.about(0), "2 0 1 1 0 1");
        c.due("the latest still", c.about(1), "3 0 -1 0 0 0");
        k.move(1, NONE, 0);
        c.due("none is the next", c.about(0), "2 0 -1 0 0 0");
        c.due("the latest beside it", c.about(1), "3 0 1 1 0 1");
        k.cut(1);
        c.due("gone ones are none", c.about(1), "3 0 -1 0 0 0");
    }

    // ---- what was joined

    private static void joinedAndSoOn(Check c) {
        CountedKeeper k = flat(c, "A THING that was JOINED into another one leads to that one (and so on)", 5);
        k.mention(0, 0, 3);
        k.mention(3, 0, 0);
        c.due("of it", c.about(0), "0 0 3 1 0 1");
        k.join(2, 3);
        c.due("joined once: of it", c.about(0), "0 0 2 1 0 1");
        c.due("joined once: in it", c.about(1), "0 2 0 1 0 1");
        k.join(1, 2);
        c.due("joined twice: of it", c.about(0), "0 0 1 1 0 1");
        c.due("joined twice: in it", c.about(1), "0 1 0 1 0 1");
        c.due("its text", c.text(0), "2");
        k.cut(1);
        c.due("What leads to none that is there is GONE: of it", c.about(0), "0 0 -1 0 1 0");
        c.due("What leads to none that is there is GONE: in it", c.about(1), "0 1 0 0 0 0");
        k.undo();
        k.undo();
        c.due("back to the second", c.about(0), "0 0 2 1 0 1");
        k.undo();
        c.due("back to itself", c.about(0), "0 0 3 1 0 1");
        c.due("back in itself", c.about(1), "0 3 0 1 0 1");
    }

    private static void longestLead(Check c) {
        CountedKeeper k = flat(c, "and so on: over 79 that were joined", 80);
        k.mention(0, 0, 79);
        k.mention(79, 0, 0);
        k.edition();
        for (int x = 78; x >= 0; x--) {
            c.due("join", k.join(x, x + 1), 0);
        }
        c.due("of the last", c.about(0), "0 0 0 1 0 1");
        c.due("in the last", c.about(1), "0 0 0 1 0 1");
        c.due("leads", k.leads(0, 79), 0);
        c.due("all but the first are told otherwise", k.changed(0), 79);
        k.cut(0);
        c.due("gone", k.leads(0, 79), NONE);
        c.due("changed", k.changed(0), 80);
    }

    // ---- runs

    private static void runsByCount(Check c) {
        CountedKeeper k = flat(c, "a RUN goes on as long as the next one has a COUNT that is 1 more", 6);
        k.range(0, 0, 1, 2);
        k.range(0, 0, 1, 4);
        c.due("two", c.text(0), "2 to 3");
        c.due("four", c.text(1), "2 to 5");
        k.move(5, NONE, 2);
        c.due("2 more", c.text(0), "2, 4");
        c.due("a run of one and one of three", c.text(1), "2, 4 to 6");
        c.due("runs", k.about(0, 3) * 10 + k.about(1, 3), 22);
        k.move(0, NONE, 4);
        c.due("2 more, on the first place", c.text(0), "1, 3");
        c.due("three runs", c.text(1), "1, 3 to 4, 6");
        c.due("runs", k.about(1, 3), 3);
        // Of two with one COUNT, and of one with a COUNT that is less, none goes on.
        k.move(2, 1, 0);
        c.due("the same count", c.text(0), "1, 1");
        k.add(0, 1, 0);
        c.due("1 more, but on another base", c.text(0), "1, 2");
    }

    private static void runsByBase(Check c) {
        CountedKeeper k = c.fresh("a RUN goes on as long as the next one has the same BASE");
        // 0 (2, 3), 1 (4, 5): by SCOPE 1 the kids count 1 to 4.
        k.form(1, 1, 0, 1);
        k.add(0, NONE, 0);
        k.add(0, NONE, 1);
        k.add(1, 0, 0);
        k.add(1, 0, 1);
        k.add(1, 1, 0);
        k.add(1, 1, 1);
        k.range(0, 1, 0, 5);
        c.due("counts go on, bases do not", c.text(0), "1.1 to 1.2, 2.3 to 2.4");
        k.form(1, 1, 0, 0);
        c.due("though it is not told", c.text(0), "1 to 2, 3 to 4");
        c.due("runs", k.about(0, 3), 2);
        k.form(1, 7, 0, 0);
        c.due("all without a base", c.text(0), "1 to 4");
        c.due("runs", k.about(0, 3), 1);
        k.form(1, 0, 0, 1);
        c.due("counts begin anew", c.text(0), "1.1 to 1.2, 2.1 to 2.2");
    }

    private static void runsOfLongBases(Check c) {
        CountedKeeper k = c.fresh("a BASE of over 30 bytes counts as none for RUNS, too");
        // Below 8 (27 bytes) eight of kind 1, and on each of these one of kind 2, counted in the whole text.
        k.form(0, 0, 0, 2);
        k.form(1, 0, 3, 1);
        k.form(2, 1, 0, 0);
        int on = NONE;
        for (int x = 0; x < 9; x++) {
            on = k.add(0, on, 0);
        }
        for (int i = 0; i < 8; i++) {
            k.add(1, on, i);
        }
        for (int i = 0; i < 8; i++) {
            k.add(2, 9 + i, 0);
        }
        // Of 9 .. 16 the bytes are 29, 30, 31, 30, 29, 30, 31, 32: the last two are no bases.
        c.due("range", k.range(0, 2, 9, 24), 0);
        c.due("text", c.text(0), "1, 2, 3, 4, 5, 6, 7 to 8");
        c.due("runs", k.about(0, 3), 7);
    }

    /** Twelve RUNS of one, each with a NUMBER of some 38 bytes: there is hardly a longer text. */
    private static void mostRuns(Check c) {
        String base = "(i)(i)(i)(i)(i)(i)(i)(i)(i)(i)";
        String[] signs = {"lxvi", "lxviii", "lxx", "lxxii", "lxxiv", "lxxvi", "lxxviii", "lxxx", "lxxxii", "lxxxiv",
            "lxxxvi", "lxxxviii"};
        StringBuilder due = new StringBuilder("abcdefghij ");
        for (int i = 0; i < 12; i++) {
            due.append(i == 0 ? "" : ", ").append(base).append('(').append(signs[i]).append(')');
        }
        // Its bytes are asked on two objects, since one has only 512 calls.
        for (int half = 0; half < 2; half++) {
            CountedKeeper k = c.fresh("RUNS of a RANGE of 12, all of one, half " + half);
            c.word(0, "abcdefghij");
            k.form(0, 0, 3, 2);
            k.form(1, 0, 3, 2);
            int on = NONE;
            for (int i = 0; i < 10; i++) {
                on = k.add(1, on, 0);
            }
            for (int i = 0; i < 77; i++) {
                k.add(0, on, i);
            }
            c.due("range", k.range(0, 0, 10 + 65, 10 + 76), 0);
            for (int i = 0; i < 11; i++) {
                k.add(0, on, 66 + 2 * i);
            }
            c.due("runs", k.about(0, 3), 12);
            c.due("bytes", k.about(0, 5), due.length());
            int from = half * due.length() / 2;
            for (int i = from; i < from + due.length() / 2 + 1; i++) {
                c.due("byte " + i, k.text(0, i), i < due.length() ? due.charAt(i) : NONE);
            }
            c.due("behind it", k.text(0, due.length()), NONE);
        }
    }

    private static void runsInOrder(Check c) {
        CountedKeeper k = flat(c, "in the ORDER", 4);
        k.range(0, 0, 0, 3);
        k.move(3, NONE, 0);
        k.move(2, NONE, 1);
        c.due("as one run", c.text(0), "1 to 4");
        c.due("of a RANGE the first", k.about(0, 2), 3);
        k.cut(3);
        c.due("the first then", k.about(0, 2), 2);
        c.due("text", c.text(0), "1 to 3");
    }

    private static void runsOfJoined(Check c) {
        CountedKeeper k = flat(c, "of the THINGS to which those meant lead (each once)", 5);
        k.range(0, 0, 2, 4);
        k.join(3, 4);
        c.due("two in one", c.text(0), "3 to 4");
        k.join(2, 3);
        c.due("all in one", c.text(0), "3");
        c.due("about", c.about(0), "1 0 2 1 0 1");
        k.join(1, 2);
        c.due("all in one that was not meant", c.text(0), "2");
        c.due("about", c.about(0), "1 0 1 1 0 1");
        k.cut(1);
        c.due("all that it means are gone", c.about(0), "1 0 -1 0 3 0");
    }

    private static void runsOfGone(Check c) {
        CountedKeeper k = flat(c, "GONE ones aside; no text if all are GONE", 5);
        k.range(4, 0, 0, 2);
        c.word(0, "P");
        k.cut(1);
        c.due("one gone", c.text(0), "P 1 to 2");
        c.due("about", c.about(0), "1 4 0 1 1 8");
        k.cut(0);
        c.due("one left", c.text(0), "P 1");
        c.due("about", c.about(0), "1 4 2 1 2 3");
        k.cut(2);
        c.due("none left", c.text(0), "");
        c.due("about", c.about(0), "1 4 -1 0 3 0");
    }

    // ---- text or none

    private static void noTextOfGone(Check c) {
        CountedKeeper k = flat(c, "A MENTION has no text if what it means is GONE", 2);
        k.mention(0, 0, 1);
        c.due("there", c.about(0), "0 0 1 1 0 1");
        k.cut(1);
        c.due("gone", c.about(0), "0 0 -1 0 1 0");
        c.due("byte 0", k.text(0, 0), NONE);
        k.undo();
        c.due("there again", c.about(0), "0 0 1 1 0 1");
        k.undo();
        c.due("never to be", c.about(0), "0 0 -1 0 1 0");
    }

    private static void noTextOfNone(Check c) {
        CountedKeeper k = flat(c, "or there is none", 1);
        for (int kind = 0; kind < 6; kind++) {
            k.mention(0, 2, kind);
        }
        for (int m = 0; m < 6; m++) {
            c.due("none of " + m, c.about(m), "2 0 -1 0 0 0");
            c.due("byte 0", k.text(m, 0), NONE);
        }
        k.add(5, 0, 0);
        c.due("one now", c.about(5), "2 0 1 1 0 1");
    }

    private static void noTextInGone(Check c) {
        CountedKeeper k = flat(c, "or if the THING in which it is is GONE", 5);
        k.edition();
        k.mention(4, 0, 0);
        k.range(4, 0, 0, 2);
        k.mention(4, 2, 0);
        k.mention(4, 3, 0);
        k.frozen(4, 0, 0);
        k.cut(4);
        c.due("of a thing", c.about(0), "0 4 0 0 0 0");
        c.due("a range", c.about(1), "1 4 0 0 0 0");
        c.due("the next", c.about(2), "2 4 -1 0 0 0");
        c.due("the latest", c.about(3), "3 4 -1 0 0 0");
        c.due("frozen", c.about(4), "4 4 0 0 0 0");
        for (int m = 0; m < 5; m++) {
            c.due("byte 0 of " + m, k.text(m, 0), NONE);
        }
        k.undo();
        c.due("there again", c.text(0) + "; " + c.text(1) + "; " + c.text(3) + "; " + c.text(4), "1; 1 to 3; 4; 1");
        k.join(3, 4);
        c.due("MENTIONS in one that was JOINED are in the one to which it leads", c.about(3), "3 3 2 1 0 1");
        c.due("frozen", c.about(4), "4 3 0 1 0 1");
    }

    private static void frozenAlwaysHas(Check c) {
        CountedKeeper k = flat(c, "a FROZEN one always has; as the THING was TOLD in that EDITION", 3);
        c.word(0, "Part");
        k.edition();
        k.frozen(0, 2, 0);
        k.form(0, 0, 3, 2);
        c.word(0, "");
        c.due("other forms", c.text(0), "Part 3");
        k.move(2, NONE, 0);
        c.due("moved", c.text(0), "Part 3");
        k.move(2, NONE, 2);
        k.join(1, 2);
        c.due("joined", c.about(0), "4 0 1 1 0 6");
        k.cut(1);
        c.due("gone", c.about(0), "4 0 -1 1 1 6");
        c.due("its text", c.text(0), "Part 3");
        c.due("of one that is gone now", k.frozen(0, 2, 0), 1);
        c.due("its text", c.text(1), "Part 3");
    }

    // ---- about and text

    private static void aboutKinds(Check c) {
        CountedKeeper k = flat(c, "18: Of MENTION m, what 0 .. 5", 5);
        c.word(0, "P");
        k.edition();
        k.mention(1, 0, 2);
        k.range(1, 0, 2, 4);
        k.mention(1, 2, 0);
        k.mention(1, 3, 0);
        k.frozen(1, 4, 0);
        c.due("0", c.about(0), "0 1 2 1 0 3");
        c.due("1", c.about(1), "1 1 2 1 0 8");
        c.due("2", c.about(2), "2 1 2 1 0 3");
        c.due("3", c.about(3), "3 1 0 1 0 3");
        c.due("4", c.about(4), "4 1 4 1 0 3");
    }

    private static void aboutNone(Check c) {
        CountedKeeper k = flat(c, "18: -10 when there is none such", 2);
        k.mention(0, 0, 1);
        k.mention(0, 0, 1);
        int[] none = {-1, -2, 2, 3, 99, 100, LEAST, MOST};
        for (int m : none) {
            c.due("about " + m, c.about(m), "-10 -10 -10 -10 -10 -10");
        }
        int[] whats = {-1, 6, 7, LEAST, MOST};
        for (int what : whats) {
            c.due("what " + what, k.about(1, what), -10);
        }
        c.due("the last there is", k.about(1, 5), 1);
    }

    private static void bytesOfText(Check c) {
        CountedKeeper k = flat(c, "19: Byte i of a MENTION's text; NONE", 3);
        c.word(0, "Part");
        k.mention(0, 0, 2);
        k.range(0, 0, 0, 2);
        c.due("the first", k.text(0, 0), 'P');
        c.due("the last", k.text(0, 5), '3');
        c.due("behind it", k.text(0, 6), NONE);
        c.due("the last of a range", k.text(1, 10), '3');
        c.due("behind it", k.text(1, 11), NONE);
        int[] none = {-1, LEAST, MOST, 600};
        for (int i : none) {
            c.due("byte " + i, k.text(1, i), NONE);
        }
        int[] mentions = {-1, 2, 100, LEAST, MOST};
        for (int m : mentions) {
            c.due("of " + m, k.text(m, 0), NONE);
        }
        // A long text that was asked ahead of it leaves nothing behind a short one.
        c.due("the last again", k.text(1, 10), '3');
        c.due("behind the short one", k.text(0, 6), NONE);
    }

    // ---- trouble

    private static void troubleOfEach(Check c) {
        CountedKeeper k = flat(c, "20: have no text, or are of something GONE, or are RANGES of more than one RUN", 6);
        c.due("without mentions", k.trouble(), 0);
        k.edition();
        k.mention(0, 0, 5);
        k.mention(0, 2, 0);
        k.range(0, 0, 1, 3);
        k.frozen(0, 5, 0);
        c.due("none", k.trouble(), 0);
        k.mention(0, 3, 0);
        c.due("no text", k.trouble(), 1);
        k.move(5, NONE, 2);
        c.due("a range of two runs", k.trouble(), 2);
        k.cut(5);
        c.due("of something gone, and a frozen one of it", k.trouble(), 3);
        k.cut(2);
        c.due("a range of one run with one that is gone", k.trouble(), 4);
        k.undo();
        k.undo();
        k.undo();
        c.due("as before", k.trouble(), 1);
        k.add(0, NONE, 0);
        c.due("there is one now", k.trouble(), 0);
    }

    private static void troubleInGone(Check c) {
        CountedKeeper k = flat(c, "20: How many MENTIONS, in THINGS that are there", 4);
        k.mention(3, 2, 0);
        k.mention(3, 0, 2);
        c.due("in one that is there", k.trouble(), 1);
        k.cut(3);
        c.due("in one that is gone", k.trouble(), 0);
        k.undo();
        k.join(2, 3);
        c.due("in one that was joined", k.trouble(), 1);
        k.cut(2);
        c.due("in one that was joined into one that is gone", k.trouble(), 0);
        k.undo();
        for (int m = 2; m < 100; m++) {
            k.mention(2, 2, 0);
        }
        c.due("all but one of 100", k.trouble(), 99);
    }
}
