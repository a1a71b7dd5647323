/** The boundary cases of Terms I: COUNT, SIGN, BASE, NUMBER and how a THING is TOLD. */
public final class NumberEdgesTest {
    private static final int NONE = NumberKeeper.NONE;

    public static void main(String[] args) {
        Check c = new Check("NumberEdgesTest");
        firstCount(c);
        scopeSame(c);
        scopeWhole(c);
        scopeOfEachKind(c);
        nearestAbove(c);
        scopeWithoutOneAbove(c);
        countsOnlyItsKind(c);
        allSigns(c);
        baseByScope(c);
        joinsWithoutBase(c);
        joinsWithBase(c);
        baseOf30And31(c);
        longBaseByScope(c);
        longBaseComesAndGoes(c);
        longestNumber(c);
        toldWithAndWithoutWord(c);
        c.finish();
    }

    private static void due(Check c, int scope, int[] things, int[] counts, int[] bases) {
        for (int i = 0; i < things.length; i++) {
            c.due("count of " + things[i] + " by scope " + scope, c.keeper.thing(things[i], 4), counts[i]);
            c.due("base of " + things[i] + " by scope " + scope, c.keeper.thing(things[i], 8), bases[i]);
        }
    }

    private static void firstCount(Check c) {
        CountedKeeper k = c.fresh("COUNT: 1 and how many of its KIND come ahead");
        k.add(0, NONE, 0);
        for (int scope = 0; scope <= 7; scope++) {
            k.form(0, scope, 0, 0);
            c.due("a lone one by scope " + scope, k.thing(0, 4), 1);
            c.due("its number by scope " + scope, c.told(0), "1");
        }
        k.add(0, NONE, 0);
        for (int scope = 0; scope <= 7; scope++) {
            k.form(0, scope, 0, 0);
            c.due("one ahead by scope " + scope, k.thing(0, 4), 2);
            c.due("none ahead by scope " + scope, k.thing(1, 4), 1);
        }
    }

    private static void scopeSame(Check c) {
        CountedKeeper k = c.fresh("SCOPE 0 those that hang on the same");
        // 0 (1 (2), 3), 4: what is below the others is not counted.
        k.add(0, NONE, 0);
        k.add(0, 0, 0);
        k.add(0, 1, 0);
        k.add(0, 0, 1);
        k.add(0, NONE, 1);
        due(c, 0, new int[] {0, 1, 2, 3, 4}, new int[] {1, 1, 1, 2, 2}, new int[] {NONE, 0, 1, 0, NONE});
    }

    private static void scopeWhole(Check c) {
        CountedKeeper k = c.fresh("SCOPE 1 the whole text");
        k.form(0, 1, 0, 0);
        k.add(0, NONE, 0);
        k.add(0, 0, 0);
        k.add(0, 1, 0);
        k.add(0, 0, 1);
        k.add(0, NONE, 1);
        due(c, 1, new int[] {0, 1, 2, 3, 4}, new int[] {1, 2, 3, 4, 5}, new int[] {NONE, 0, 1, 0, NONE});
    }

    /** For each kind k: two of it, each with two of another kind below it, and one of these behind them. */
    private static void scopeOfEachKind(Check c) {
        for (int above = 0; above < 6; above++) {
            int kind = (above + 1) % 6;
            CountedKeeper k = c.fresh("SCOPE 2 + k all below its nearest one above of KIND k, k " + above);
            k.add(above, NONE, 0);
            k.add(above, NONE, 1);
            k.add(kind, 0, 0);
            k.add(kind, 0, 1);
            k.add(kind, 1, 0);
            k.add(kind, 1, 1);
            k.add(kind, NONE, 2);
            int[] things = {2, 3, 4, 5, 6};
            for (int scope = 2; scope <= 7; scope++) {
                k.form(kind, scope, 0, 0);
                if (scope == 2 + above) {
                    due(c, scope, things, new int[] {1, 2, 1, 2, 5}, new int[] {0, 0, 1, 1, NONE});
                } else {
                    due(c, scope, things, new int[] {1, 2, 3, 4, 5}, new int[] {NONE, NONE, NONE, NONE, NONE});
                }
            }
        }
    }

    private static void nearestAbove(Check c) {
        CountedKeeper k = c.fresh("its nearest one above of KIND k");
        // 0 (1 (2), 3) of kind 0; 4 .. 7 of kind 1, one below each as the last on it.
        k.add(0, NONE, 0);
        k.add(0, 0, 0);
        k.add(0, 1, 0);
        k.add(0, 0, 1);
        k.add(1, 2, 0);
        k.add(1, 1, 1);
        k.add(1, 3, 0);
        k.add(1, 0, 2);
        k.form(1, 2, 0, 0);
        due(c, 2, new int[] {4, 5, 6, 7}, new int[] {1, 2, 1, 4}, new int[] {2, 1, 3, 0});
        // Of its own kind it is not above itself, and one that stands beside it is not, either.
        k.form(0, 2, 0, 0);
        due(c, 2, new int[] {0, 1, 2, 3}, new int[] {1, 1, 1, 3}, new int[] {NONE, 0, 1, 0});
    }

    private static void scopeWithoutOneAbove(Check c) {
        CountedKeeper k = c.fresh("the whole text, without one; (none without)");
        // 0 of kind 0 with 1 of kind 1 on it, then 2 of kind 1 on the text and 3 of kind 1 on 4 of kind 2.
        k.add(0, NONE, 0);
        k.add(1, 0, 0);
        k.add(1, NONE, 1);
        k.add(2, NONE, 2);
        k.add(1, 3, 0);
        k.form(1, 2, 0, 1);
        due(c, 2, new int[] {1, 2, 4}, new int[] {1, 2, 3}, new int[] {0, NONE, NONE});
        c.due("told", c.told(1) + " " + c.told(2) + " " + c.told(4), "1.1 2 3");
    }

    private static void countsOnlyItsKind(Check c) {
        CountedKeeper k = c.fresh("how many of its KIND");
        for (int i = 0; i < 12; i++) {
            k.add(i % 6, NONE, i);
        }
        for (int scope = 0; scope <= 1; scope++) {
            for (int kind = 0; kind < 6; kind++) {
                k.form(kind, scope, 0, 0);
                c.due("the first of " + kind, k.thing(kind, 4), 1);
                c.due("the second of " + kind, k.thing(kind + 6, 4), 2);
            }
        }
    }

    private static String letters(int n) {
        int first = (n - 1) / 26;
        char last = (char) ('a' + (n - 1) % 26);
        return (first == 0 ? "" : String.valueOf((char) ('a' + first - 1))) + last;
    }

    private static String roman(int n) {
        String[] ones = {"", "i", "ii", "iii", "iv", "v", "vi", "vii", "viii", "ix"};
        String[] tens = {"", "x", "xx", "xxx", "xl", "l", "lx", "lxx", "lxxx", "xc"};
        return (n >= 100 ? "c" : "") + tens[n / 10 % 10] + ones[n % 10];
    }

    private static String sign(int style, int n) {
        switch (style) {
            case 0:
                return Integer.toString(n);
            case 1:
                return letters(n);
            case 2:
                return letters(n).toUpperCase();
            case 3:
                return roman(n);
            default:
                return roman(n).toUpperCase();
        }
    }

    /** Every COUNT that there can be, 1 to 120, in every STYLE. */
    private static void allSigns(Check c) {
        for (int style = 0; style <= 4; style++) {
            for (int from = 1; from <= 120; from += 40) {
                CountedKeeper k = c.fresh("SIGN by STYLE " + style);
                k.form(0, 0, style, 0);
                for (int x = 0; x < 120; x++) {
                    k.add(0, NONE, x);
                }
                for (int n = from; n < from + 40; n++) {
                    c.due("count " + n, c.told(n - 1), sign(style, n));
                }
            }
        }
    }

    private static void baseByScope(Check c) {
        CountedKeeper k = c.fresh("BASE: with SCOPE 2 + k that one above, else that on which it hangs (none: the text)");
        k.add(0, NONE, 0);
        k.add(1, 0, 0);
        k.add(2, 1, 0);
        int[] bases = {1, 1, 0, 1, NONE, NONE, NONE, NONE};
        for (int scope = 0; scope <= 7; scope++) {
            k.form(2, scope, 0, 0);
            c.due("scope " + scope, k.thing(2, 8), bases[scope]);
        }
        for (int scope = 0; scope <= 7; scope++) {
            k.form(0, scope, 0, 0);
            c.due("on the text, scope " + scope, k.thing(0, 8), NONE);
        }
    }

    private static void joinsWithoutBase(Check c) {
        CountedKeeper k = c.fresh("without a BASE 1 the SIGN, 2 \"(\", SIGN, \")\"");
        k.add(0, NONE, 0);
        k.add(0, NONE, 1);
        String[] due = {"ii", "ii", "(ii)"};
        for (int join = 0; join <= 2; join++) {
            k.form(0, 0, 3, join);
            c.due("join " + join, c.told(1), due[join]);
        }
        k.add(0, 1, 0);
        for (int join = 0; join <= 2; join++) {
            k.form(0, 3, 3, join);
            c.due("on another one, join " + join, c.told(2), new String[] {"iii", "iii", "(iii)"}[join]);
        }
    }

    private static void joinsWithBase(Check c) {
        CountedKeeper k = c.fresh("JOIN 0 the SIGN; 1 the BASE's NUMBER, \".\", the SIGN; 2 with \"(\" and \")\"");
        k.form(0, 0, 4, 0);
        k.add(0, NONE, 0);
        k.add(0, NONE, 1);
        k.add(1, 1, 0);
        k.add(1, 1, 1);
        k.add(2, 3, 0);
        String[] middle = {"b", "II.b", "II(b)"};
        for (int one = 0; one <= 2; one++) {
            k.form(1, 0, 1, one);
            c.due("join " + one, c.told(3), middle[one]);
            String[] last = {"1", middle[one] + ".1", middle[one] + "(1)"};
            for (int two = 0; two <= 2; two++) {
                k.form(2, 0, 0, two);
                c.due("join " + two + " on join " + one, c.told(4), last[two]);
            }
        }
    }

    /**
     * A host with a NUMBER of 27 bytes, on it things whose NUMBERS have 29, 30, 31, 30, 29 bytes (9 .. 13),
     * and on each of these one more (14 .. 18).
     */
    private static CountedKeeper longHosts(Check c, String name) {
        CountedKeeper k = c.fresh(name);
        k.form(0, 0, 0, 2);
        k.form(1, 0, 3, 1);
        int on = NONE;
        for (int x = 0; x < 9; x++) {
            on = k.add(0, on, 0);
        }
        for (int i = 0; i < 5; i++) {
            k.add(1, on, i);
        }
        for (int i = 0; i < 5; i++) {
            k.add(2, 9 + i, 0);
        }
        return k;
    }

    private static final String HOST = "(1)(1)(1)(1)(1)(1)(1)(1)(1)";

    private static void baseOf30And31(Check c) {
        CountedKeeper k = longHosts(c, "A BASE that would have more than 30 bytes in its NUMBER counts as none");
        int[] bases = {9, 10, NONE, 12, 13};
        for (int i = 0; i < 5; i++) {
            c.due("base of the kid of " + (9 + i), k.thing(14 + i, 8), bases[i]);
        }
        c.due("31 bytes are told", c.told(11), HOST + ".iii");
        k.form(2, 0, 1, 1);
        c.due("29, join 1", c.told(14), HOST + ".i.a");
        c.due("30, join 1", c.told(15), HOST + ".ii.a");
        c.due("31, join 1", c.told(16), "a");
        k.form(2, 0, 1, 2);
        c.due("30, join 2", c.told(15), HOST + ".ii(a)");
        c.due("31, join 2", c.told(16), "(a)");
        k.form(2, 0, 1, 0);
        c.due("30, join 0", c.told(15), "a");
        c.due("31, join 0", c.told(16), "a");
        c.due("its word is no part of the 30", c.word(1, "abcdefghij"), 10);
        c.due("30 with a word", k.thing(15, 8), 10);
        c.due("31 with a word", k.thing(16, 8), NONE);
    }

    private static void longBaseByScope(Check c) {
        CountedKeeper k = longHosts(c, "a BASE of over 30 bytes with SCOPE 2 + k: none, but the COUNT stays");
        k.form(2, 3, 0, 1);
        k.add(2, 10, 1);
        k.add(2, 11, 1);
        c.due("30: base", k.thing(19, 8), 10);
        c.due("30: count", k.thing(19, 4), 2);
        c.due("30: told", c.told(19), HOST + ".ii.2");
        c.due("31: base", k.thing(20, 8), NONE);
        c.due("31: count", k.thing(20, 4), 2);
        c.due("31: told", c.told(20), "2");
        // The one above of kind 0 has 27 bytes, though what it hangs on has 31.
        k.form(2, 2, 0, 1);
        c.due("over it: base", k.thing(20, 8), 8);
        c.due("over it: told", c.told(20), HOST + ".5");
    }

    private static void longBaseComesAndGoes(Check c) {
        CountedKeeper k = longHosts(c, "a BASE becomes too long and is a BASE again");
        k.form(2, 0, 0, 1);
        c.due("30 bytes", k.thing(15, 8), 10);
        k.add(1, 8, 0);
        c.due("31 bytes now", k.thing(15, 8), NONE);
        c.due("told", c.told(15), "1");
        c.due("30 bytes now", k.thing(16, 8), 11);
        k.undo();
        c.due("30 bytes again", k.thing(15, 8), 10);
        // From 30, 31 bytes to 31, 30: four NUMBERS are others, those of the two and of their kids.
        c.due("two change places", k.move(10, 8, 2), 4);
        c.due("31 bytes", k.thing(15, 8), NONE);
        c.due("30 bytes", c.told(16), HOST + ".ii.1");
    }

    private static void longestNumber(Check c) {
        CountedKeeper k = c.fresh("the longest NUMBER, of 40 bytes, behind the longest WORD");
        k.form(0, 0, 0, 2);
        k.form(1, 0, 3, 2);
        c.word(1, "abcdefghij");
        int on = NONE;
        for (int x = 0; x < 10; x++) {
            on = k.add(0, on, 0);
        }
        for (int i = 0; i < 88; i++) {
            k.add(1, on, i);
        }
        c.due("told", c.told(97), "abcdefghij " + HOST + "(1)(lxxxviii)");
        c.due("its last byte", k.told(97, 50), ')');
        c.due("behind it", k.told(97, 51), NONE);
        k.add(2, 97, 0);
        c.due("no base", k.thing(98, 8), NONE);
        k.edition();
        c.due("old", c.old(0, 1, HOST + "(1)(lxxxviii)"), 97);
    }

    private static void toldWithAndWithoutWord(Check c) {
        CountedKeeper k = c.fresh("TOLD it is by its WORD, a blank (32), its NUMBER; without a WORD by its NUMBER");
        k.add(0, NONE, 0);
        k.add(1, NONE, 1);
        c.word(0, "P");
        c.due("with", c.told(0), "P 1");
        c.due("the blank", k.told(0, 1), 32);
        c.due("without", c.told(1), "1");
        c.due("the first byte", k.told(1, 0), '1');
        c.due("behind it", k.told(1, 1), NONE);
        k.form(0, 0, 0, 2);
        c.due("with brackets", c.told(0), "P (1)");
    }
}
