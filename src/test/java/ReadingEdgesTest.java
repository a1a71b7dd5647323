/** The boundary cases of promises 25 and 26 and of READING in Terms III: each part bears its sentence. */
public final class ReadingEdgesTest {
    private static final int NONE = NumberKeeper.NONE;
    private static final int RANGE = NumberKeeper.RANGE;
    private static final int LEAST = Integer.MIN_VALUE;
    private static final int MOST = Integer.MAX_VALUE;

    public static void main(String[] args) {
        Check c = new Check("ReadingEdgesTest");
        readIn(c);
        readInGone(c);
        readOfNothing(c);
        findingsOfTheLatest(c);
        findingArguments(c);
        fortyFindings(c);
        moreThanForty(c);
        mostFindings(c);
        wordAtTheBeginning(c);
        wordBehindEachByte(c);
        blankBehindTheWord(c);
        bytesOfTheRun(c);
        runOfNone(c);
        runToTheEnd(c);
        tapeThatWasLonger(c);
        wordWhole(c);
        noWord(c);
        longestPart(c);
        longestOfNumberAndSign(c);
        unknown(c);
        goesOnBehind(c);
        longestWord(c);
        leastKind(c);
        byNumber(c);
        bySign(c);
        bySignInBrackets(c);
        bySignWithoutBase(c);
        onceBySignAndNumber(c);
        doubts(c);
        firstByOrder(c);
        onlyThoseThere(c);
        longNumbers(c);
        c.finish();
    }

    /** Parts 0 (2, 3), 1 (4) numbered as 1.2, each called Part. */
    private static CountedKeeper book(Check c, String name) {
        CountedKeeper k = c.fresh(name);
        c.word(0, "Part");
        k.form(0, 0, 0, 1);
        k.add(0, NONE, 0);
        k.add(0, NONE, 1);
        k.add(0, 0, 0);
        k.add(0, 0, 1);
        k.add(0, 1, 0);
        return k;
    }

    /** One thing, called P, with the number 1. */
    private static CountedKeeper lone(Check c, String name) {
        CountedKeeper k = c.fresh(name);
        c.word(0, "P");
        k.add(0, NONE, 0);
        return k;
    }

    private static void due(Check c, int in, String text, String... findings) {
        c.due("read of '" + text + "' in " + in, c.read(in, text), findings.length);
        for (int i = 0; i < findings.length; i++) {
            c.due("finding " + i + " of '" + text + "' in " + in, c.finding(i), findings[i]);
        }
        c.due("finding behind", c.keeper.finding(findings.length, 0), -10);
    }

    private static String times(String piece, int n) {
        StringBuilder all = new StringBuilder();
        for (int i = 0; i < n; i++) {
            all.append(piece);
        }
        return all.toString();
    }

    // ---- read

    private static void readIn(Check c) {
        book(c, "25: free text in a THING; RANGE");
        int[] none = {-1, -2, 5, 6, 119, 120, LEAST, MOST};
        for (int in : none) {
            c.due("in " + in, c.read(in, "Part 1.2"), RANGE);
        }
        c.due("no finding of these", c.keeper.finding(0, 0), -10);
        c.due("in the first", c.read(0, "Part 1.2"), 1);
        c.due("in the last", c.read(4, "Part 1.2"), 1);
    }

    private static void readInGone(Check c) {
        CountedKeeper k = book(c, "25: in a THING (that is there)");
        k.join(2, 3);
        c.due("joined", c.read(3, "Part 1"), RANGE);
        k.undo();
        c.due("there again", c.read(3, "Part 1.2"), 1);
        k.cut(0);
        c.due("cut", c.read(0, "Part 1"), RANGE);
        c.due("below it", c.read(3, "Part 1"), RANGE);
        k.undo();
        k.undo();
        c.due("its add undone", c.read(4, "Part 1"), RANGE);
    }

    private static void readOfNothing(Check c) {
        CountedKeeper k = lone(c, "25: how many FINDINGS of an empty TAPE");
        c.due("empty", k.read(0), 0);
        c.due("finding 0", k.finding(0, 0), -10);
        c.due("one", c.read(0, "P 1"), 1);
        c.due("empty again", k.read(0), 0);
        c.due("the former one is no more", k.finding(0, 0), -10);
        c.due("nothing in 600 bytes", c.read(0, times(" ", 600)), 0);
    }

    // ---- finding

    private static void findingsOfTheLatest(Check c) {
        CountedKeeper k = lone(c, "26: of the latest read() that was not RANGE");
        c.due("ahead of all", k.finding(0, 0), -10);
        c.read(0, "P 1 P 2 P 3");
        c.due("third", c.finding(2), "8-11 0 0 -1");
        c.due("refused", c.read(1, "P 1"), RANGE);
        c.due("third still", c.finding(2), "8-11 0 0 -1");
        k.undo();
        c.due("refused, since it is gone", c.read(0, ""), RANGE);
        c.due("first still, though its thing is gone", c.finding(0), "0-3 0 1 0");
        k.add(0, NONE, 0);
        c.due("the latest", c.read(1, "..P 1"), 1);
        c.due("first", c.finding(0), "2-5 0 1 1");
        c.due("no second", k.finding(1, 0), -10);
    }

    private static void findingArguments(Check c) {
        CountedKeeper k = lone(c, "26: -10 when there is none such");
        c.read(0, "P 1 P 2");
        int[] none = {-1, -2, 2, 3, 39, 40, 41, LEAST, MOST, 1 << 30};
        for (int i : none) {
            c.due("finding " + i, c.finding(i), "-10--10 -10 -10 -10");
        }
        int[] whats = {-1, 5, 6, LEAST, MOST};
        for (int what : whats) {
            c.due("what " + what, k.finding(0, what), -10);
            c.due("what " + what, k.finding(1, what), -10);
        }
        c.due("the last", c.finding(1), "4-7 0 0 -1");
    }

    private static void fortyFindings(Check c) {
        CountedKeeper k = lone(c, "25: 39 and 40 FINDINGS");
        c.due("39", c.read(0, times("P 1,", 39)), 39);
        c.due("the last", c.finding(38), "152-155 0 1 0");
        c.due("behind it", k.finding(39, 0), -10);
        c.due("40", c.read(0, times("P 1,", 40)), 40);
        c.due("the first", c.finding(0), "0-3 0 1 0");
        c.due("the last", c.finding(39), "156-159 0 1 0");
        c.due("behind it", k.finding(40, 0), -10);
    }

    private static void moreThanForty(Check c) {
        CountedKeeper k = lone(c, "25: those from the 40th on are not told");
        c.due("41", c.read(0, times("P 1,", 41)), 41);
        c.due("number 39", c.finding(39), "156-159 0 1 0");
        c.due("number 40", c.finding(40), "-10--10 -10 -10 -10");
        c.due("42", c.read(0, times("P 1,", 42)), 42);
        c.due("number 41", c.finding(41), "-10--10 -10 -10 -10");
        c.due("few again", c.read(0, "P 1"), 1);
        c.due("number 39 of few", k.finding(39, 0), -10);
    }

    private static void mostFindings(Check c) {
        CountedKeeper k = lone(c, "25: the most FINDINGS that there can be");
        c.due("200", c.read(0, times("P 1", 200)), 200);
        c.due("number 39", c.finding(39), "117-120 0 1 0");
        c.due("number 40", k.finding(40, 0), -10);
        c.due("number 199", k.finding(199, 0), -10);
        c.due("number 200", k.finding(200, 0), -10);
    }

    // ---- where a word stands

    private static void wordAtTheBeginning(Check c) {
        lone(c, "(or at the beginning)");
        due(c, 0, "P 1", "0-3 0 1 0");
        due(c, 0, " P 1", "1-4 0 1 0");
        due(c, 0, "PP 1");
        due(c, 0, "P P 1", "0-3 0 0 -1");
    }

    private static void wordBehindEachByte(Check c) {
        for (int from = 0; from < 256; from += 64) {
            CountedKeeper k = lone(c, "behind a byte that is no letter");
            for (int b = from; b < from + 64; b++) {
                boolean isLetter = b >= 'A' && b <= 'Z' || b >= 'a' && b <= 'z';
                c.due("byte " + b, c.read(0, (char) b + "P 1"), isLetter ? 0 : 1);
                c.due("begins", k.finding(0, 0), isLetter ? -10 : 1);
            }
        }
    }

    private static void blankBehindTheWord(Check c) {
        for (int from = 0; from < 256; from += 64) {
            lone(c, "a blank behind it");
            for (int b = from; b < from + 64; b++) {
                c.due("byte " + b, c.read(0, "P" + (char) b + "1"), b == ' ' ? 1 : 0);
            }
        }
        lone(c, "a blank behind it, and then a run");
        due(c, 0, "P  1");
        due(c, 0, "P1");
        due(c, 0, "P");
    }

    private static void bytesOfTheRun(Check c) {
        String such = "0123456789abcdefghijklmnopqrstuvwxyzABCDEFGHIJKLMNOPQRSTUVWXYZ.()";
        for (int from = 0; from < 256; from += 32) {
            CountedKeeper k = lone(c, "a run of bytes 0 .. 9, a .. z, A .. Z, . ( )");
            for (int b = from; b < from + 32; b++) {
                boolean isSuch = such.indexOf(b) >= 0;
                // As the first byte it makes a run or none; behind another one it goes on with it or ends it.
                c.due("first byte " + b, c.read(0, "P " + (char) b), isSuch ? 1 : 0);
                c.read(0, "P 9" + (char) b + "9");
                c.due("end with byte " + b, k.finding(0, 1), isSuch ? 5 : 3);
            }
        }
    }

    private static void runOfNone(Check c) {
        lone(c, "(all, one at least)");
        due(c, 0, "P ");
        due(c, 0, "P ,1");
        due(c, 0, "P -1");
        due(c, 0, "P \u00b9");
        due(c, 0, "P ,P 1", "3-6 0 1 0");
        due(c, 0, "P P", "0-3 0 0 -1");
        due(c, 0, "P .", "0-3 0 0 -1");
        due(c, 0, "P (", "0-3 0 0 -1");
        due(c, 0, "P )", "0-3 0 0 -1");
    }

    private static void runToTheEnd(Check c) {
        lone(c, "a run that ends with THE TAPE");
        due(c, 0, times("-", 597) + "P 1", "597-600 0 1 0");
        due(c, 0, times("-", 598) + "P ");
        due(c, 0, times("-", 599) + "P");
        due(c, 0, "P " + times("2", 598), "0-600 0 0 -1");
        due(c, 0, "P " + times("1", 598), "0-3 0 1 0");
    }

    private static void tapeThatWasLonger(Check c) {
        CountedKeeper k = book(c, "bytes that end() took from THE TAPE are no part of it");
        String text = "Part 1.2";
        String[] due = {"", "", "", "", "", "", "0-6 0 2 0", "0-6 0 2 0", "0-8 0 1 3"};
        for (int n = 0; n < due.length; n++) {
            c.tape(text);
            k.end(n);
            c.due("findings of " + n, k.read(1), due[n].isEmpty() ? 0 : 1);
            if (!due[n].isEmpty()) {
                c.due("finding of " + n, c.finding(0), due[n]);
            }
        }
        // At the very end of the room of THE TAPE nothing may be looked for behind it.
        for (int n = 1; n <= text.length(); n++) {
            c.due("findings of the last " + n, c.read(1, times("-", 600 - n) + text.substring(0, n)), n < 6 ? 0 : 1);
        }
        c.due("the last one", c.finding(0), "592-600 0 1 3");
    }

    private static void wordWhole(Check c) {
        book(c, "a WORD of a KIND stands");
        due(c, 0, "Part 2.1", "0-8 0 1 4");
        due(c, 0, "Par 2.1");
        due(c, 0, "Parts 2.1");
        due(c, 0, "part 2.1");
        due(c, 0, "PART 2.1");
        due(c, 0, "art 2.1");
        due(c, 0, "Part");
        due(c, 0, "Par");
        due(c, 0, "PaPart 2.1");
        due(c, 0, "Pa.Part 2.1", "3-11 0 1 4");
    }

    private static void noWord(Check c) {
        CountedKeeper k = c.fresh("a KIND without a WORD is never found");
        k.add(0, NONE, 0);
        due(c, 0, " 1");
        due(c, 0, "1");
        due(c, 0, "  1 1");
        c.word(5, "abcdefghij");
        k.add(5, NONE, 1);
        due(c, 0, "abcdefghij 1 abcdefghi 1", "0-12 5 1 1");
    }

    // ---- the part that means something

    private static void longestPart(Check c) {
        CountedKeeper k = c.fresh("the longest part of the run from its beginning on that means something");
        c.word(0, "P");
        for (int x = 0; x < 12; x++) {
            k.add(0, NONE, x);
        }
        due(c, 0, "P 1", "0-3 0 1 0");
        due(c, 0, "P 12", "0-4 0 1 11");
        due(c, 0, "P 13", "0-3 0 1 0");
        due(c, 0, "P 123", "0-4 0 1 11");
        due(c, 0, "P 1.2", "0-3 0 1 0");
        due(c, 0, "P 1)", "0-3 0 1 0");
        due(c, 0, "P 1x", "0-3 0 1 0");
        due(c, 0, "P (1)", "0-5 0 0 -1");
        due(c, 0, "P 01", "0-4 0 0 -1");
        due(c, 0, "P 1 2", "0-3 0 1 0");
    }

    private static void longestOfNumberAndSign(Check c) {
        CountedKeeper k = c.fresh("the longest part, of NUMBERS and SIGNS");
        // 0 "1" with 1 "1.1" and 2 "1.2" on it; in 0 the SIGN 1 means 1, too.
        c.word(0, "P");
        k.form(0, 0, 0, 1);
        k.add(0, NONE, 0);
        k.add(0, 0, 0);
        k.add(0, 0, 1);
        due(c, 0, "P 1.1", "0-5 0 1 1");
        due(c, 0, "P 1.3", "0-3 0 2 0");
        due(c, 0, "P 2.1", "0-3 0 1 2");
        due(c, 0, "P 2", "0-3 0 1 2");
        due(c, 2, "P 2", "0-3 0 1 2");
        k.add(0, NONE, 1);
        due(c, 3, "P 1.", "0-3 0 1 0");
        due(c, 3, "P 2", "0-3 0 1 3");
        due(c, 0, "P 2", "0-3 0 2 2");
    }

    private static void unknown(Check c) {
        lone(c, "if no part means anything it goes to the end of the run, UNKNOWN");
        due(c, 0, "P 2", "0-3 0 0 -1");
        due(c, 0, "P 2.a(B)9 1", "0-9 0 0 -1");
        due(c, 0, "P a1", "0-4 0 0 -1");
        due(c, 0, "P 2P 1", "0-4 0 0 -1");
        due(c, 0, "P 2,P 1", "0-3 0 0 -1", "4-7 0 1 0");
        c.keeper.cut(0);
        c.keeper.add(1, NONE, 0);
        due(c, 1, "P 1", "0-3 0 0 -1");
    }

    private static void goesOnBehind(Check c) {
        lone(c, "READING goes on behind it");
        due(c, 0, "P 1P 1", "0-3 0 1 0", "3-6 0 1 0");
        due(c, 0, "P 1xP 1", "0-3 0 1 0");
        due(c, 0, "P 1.P 1", "0-3 0 1 0", "4-7 0 1 0");
        due(c, 0, "P 11 P 1", "0-3 0 1 0", "5-8 0 1 0");
        due(c, 0, "P P 1", "0-3 0 0 -1");
        due(c, 0, "P  P 1", "3-6 0 1 0");
        // What ends with a letter has no WORD just behind it.
        c.keeper.form(0, 0, 1, 0);
        due(c, 0, "P aP a", "0-3 0 1 0");
        due(c, 0, "P a P a", "0-3 0 1 0", "4-7 0 1 0");
    }

    private static void longestWord(Check c) {
        CountedKeeper k = c.fresh("of several WORDS the longest");
        c.word(0, "P");
        c.word(1, "Pa");
        c.word(2, "Par");
        for (int kind = 0; kind < 3; kind++) {
            k.add(kind, NONE, kind);
        }
        due(c, 0, "P 1 Pa 1 Par 1", "0-3 0 1 0", "4-8 1 1 1", "9-14 2 1 2");
        due(c, 0, "Part 1");
        due(c, 0, "Par P 1", "0-5 2 0 -1");
    }

    private static void leastKind(Check c) {
        CountedKeeper k = c.fresh("of one WORD the least KIND");
        c.word(5, "P");
        k.add(5, NONE, 0);
        k.add(5, NONE, 1);
        due(c, 0, "P 2", "0-3 5 1 1");
        c.word(3, "P");
        k.add(3, NONE, 2);
        due(c, 0, "P 1", "0-3 3 1 2");
        due(c, 0, "P 2", "0-3 3 0 -1");
        c.word(0, "P");
        due(c, 0, "P 1", "0-3 0 0 -1");
        c.word(0, "");
        due(c, 0, "P 1", "0-3 3 1 2");
        c.word(3, "Q");
        due(c, 0, "P 1 Q 1", "0-3 5 1 0", "4-7 3 1 2");
    }

    // ---- what it means

    private static void byNumber(Check c) {
        book(c, "It means each THING of the KIND whose NUMBER it is");
        for (int in = 0; in < 5; in++) {
            due(c, in, "Part 1.2", "0-8 0 1 3");
            due(c, in, "Part 2.1", "0-8 0 1 4");
        }
    }

    private static void bySign(Check c) {
        CountedKeeper k = book(c, "and each whose SIGN it is, if its BASE is the THING in which it is read, or above");
        // By NUMBER "2" is 1; by SIGN it is 3, with the BASE 0.
        due(c, 0, "Part 2", "0-6 0 2 3");
        due(c, 2, "Part 2", "0-6 0 2 3");
        due(c, 1, "Part 2", "0-6 0 1 1");
        due(c, 4, "Part 2", "0-6 0 1 1");
        k.add(1, 2, 0);
        k.add(1, 5, 0);
        due(c, 6, "Part 2", "0-6 0 2 3");
        k.move(6, 4, 0);
        due(c, 6, "Part 2", "0-6 0 1 1");
        k.move(6, NONE, 0);
        due(c, 6, "Part 2", "0-6 0 1 1");
        // In 3 itself, too: its BASE is one above it.
        due(c, 3, "Part 2", "0-6 0 2 3");
    }

    private static void bySignInBrackets(Check c) {
        CountedKeeper k = c.fresh("(in \"(\" \")\" with JOIN 2)");
        c.word(1, "N");
        k.form(1, 0, 1, 2);
        k.add(0, NONE, 0);
        k.add(1, 0, 0);
        k.add(1, 0, 1);
        due(c, 0, "N (b)", "0-5 1 1 2");
        due(c, 0, "N b", "0-3 1 0 -1");
        due(c, 0, "N (b", "0-4 1 0 -1");
        due(c, 0, "N b)", "0-4 1 0 -1");
        due(c, 0, "N 1(b)", "0-6 1 1 2");
        due(c, 0, "N (b)(a)", "0-5 1 1 2");
        k.form(1, 0, 1, 1);
        due(c, 0, "N b", "0-3 1 1 2");
        due(c, 0, "N (b)", "0-5 1 0 -1");
        due(c, 0, "N .b", "0-4 1 0 -1");
        due(c, 0, "N 1.b", "0-5 1 1 2");
        k.form(1, 0, 1, 0);
        due(c, 0, "N b", "0-3 1 1 2");
        due(c, 0, "N 1.b", "0-5 1 0 -1");
    }

    private static void bySignWithoutBase(Check c) {
        CountedKeeper k = c.fresh("by SIGN only with a BASE");
        c.word(1, "N");
        k.form(1, 7, 1, 2);
        k.add(0, NONE, 0);
        k.add(1, 0, 0);
        due(c, 0, "N (a)", "0-5 1 1 1");
        due(c, 0, "N a", "0-3 1 0 -1");
        // The BASE by SCOPE is not what it hangs on: 0 (2 (3)) with 3 counted below 0.
        k.form(1, 2, 1, 2);
        k.add(2, 0, 1);
        k.add(1, 2, 0);
        due(c, 0, "N (b)", "0-5 1 1 3");
        due(c, 2, "N (b)", "0-5 1 1 3");
        k.form(1, 0, 1, 2);
        due(c, 0, "N (a)", "0-5 1 1 1");
        due(c, 2, "N (a)", "0-5 1 2 1");
    }

    private static void onceBySignAndNumber(Check c) {
        CountedKeeper k = c.fresh("a THING whose NUMBER and SIGN it is counts once");
        c.word(0, "P");
        k.add(0, NONE, 0);
        k.add(0, 0, 0);
        k.add(0, 0, 1);
        due(c, 0, "P 2", "0-3 0 1 2");
        due(c, 0, "P 1", "0-3 0 2 0");
    }

    private static void doubts(Check c) {
        CountedKeeper k = c.fresh("26: how many THINGS it can mean (0 UNKNOWN, 2 and more a doubt)");
        c.word(0, "P");
        int on = NONE;
        for (int x = 0; x < 120; x++) {
            on = k.add(0, on, 0);
        }
        due(c, 0, "P 1", "0-3 0 120 0");
        due(c, 119, "P 1", "0-3 0 120 0");
        k.form(0, 1, 0, 0);
        due(c, 0, "P 120", "0-5 0 1 119");
        due(c, 0, "P 121", "0-4 0 1 11");
        due(c, 0, "P 0", "0-3 0 0 -1");
    }

    private static void firstByOrder(Check c) {
        CountedKeeper k = book(c, "26: the first of them by the ORDER (NONE)");
        due(c, 2, "Part 1", "0-6 0 2 0");
        k.move(1, NONE, 0);
        // 1 is "1" and 0 is "2" now; in 4 the SIGN 1 means 4, which comes behind 1.
        due(c, 4, "Part 1", "0-6 0 2 1");
        due(c, 2, "Part 1", "0-6 0 2 1");
        due(c, 2, "Part 2", "0-6 0 2 0");
        due(c, 2, "Part 3", "0-6 0 0 -1");
    }

    private static void onlyThoseThere(Check c) {
        CountedKeeper k = book(c, "GONE ones are not meant");
        due(c, 0, "Part 1.2", "0-8 0 1 3");
        k.cut(3);
        due(c, 0, "Part 1.2", "0-6 0 2 0");
        k.undo();
        k.join(2, 3);
        due(c, 0, "Part 1.2", "0-6 0 2 0");
        k.undo();
        due(c, 0, "Part 1.2", "0-8 0 1 3");
    }

    private static void longNumbers(Check c) {
        CountedKeeper k = c.fresh("NUMBERS of 30 and 33 bytes and what hangs on these");
        c.word(0, "P");
        k.form(0, 0, 0, 2);
        int on = NONE;
        for (int x = 0; x < 12; x++) {
            on = k.add(0, on, 0);
        }
        due(c, 0, "P " + times("(1)", 10), "0-32 0 1 9");
        due(c, 0, "P " + times("(1)", 11), "0-35 0 1 10");
        // 11 has no BASE, for its one has 33 bytes: it is "(1)" as 0 is.
        due(c, 11, "P " + times("(1)", 12), "0-35 0 1 10");
        due(c, 0, "P (1)", "0-5 0 3 0");
        due(c, 11, "P (1)", "0-5 0 12 0");
        k.add(0, 11, 0);
        due(c, 0, "P (1)(1)", "0-8 0 2 1");
    }
}
