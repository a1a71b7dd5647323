import java.util.Arrays;

/** What the tests share: a keeper to call with texts instead of bytes, and a tally of wrong answers. */
final class Check {
    private static final int MOST_BYTES = 700;
    private static final int MOST_PLACES = 200;

    private final String test;
    private String part = "";
    private int wrong;
    private int asked;
    CountedKeeper keeper;

    Check(String test) {
        this.test = test;
    }

    /** Begins a part of the test, on a new object. */
    CountedKeeper fresh(String name) {
        part = name;
        keeper = new CountedKeeper();
        return keeper;
    }

    void due(String what, int got, int want) {
        asked++;
        if (got != want) {
            wrong++;
            System.out.println(test + ", " + part + ": " + what + " answered " + got + ", due is " + want);
        }
    }

    void due(String what, String got, String want) {
        asked++;
        if (!got.equals(want)) {
            wrong++;
            System.out.println(test + ", " + part + ": " + what + " answered '" + got + "', due is '" + want + "'");
        }
    }

    /** The whole tape is this text. */
    void tape(String text) {
        keeper.end(0);
        for (int from = 0; from < text.length(); from += 20) {
            keeper.feed(four(text, from), four(text, from + 4), four(text, from + 8), four(text, from + 12),
                    four(text, from + 16));
        }
        due("end of the tape", keeper.end(text.length()), text.length());
    }

    static int four(String text, int from) {
        int all = 0;
        for (int i = from; i < from + 4; i++) {
            all = all << 8 | (i < text.length() ? text.charAt(i) & 255 : 0);
        }
        return all;
    }

    int word(int kind, String word) {
        tape(word);
        return keeper.word(kind);
    }

    int old(int e, int kind, String number) {
        tape(number);
        return keeper.old(e, kind);
    }

    int read(int in, String text) {
        tape(text);
        return keeper.read(in);
    }

    String told(int x) {
        StringBuilder all = new StringBuilder();
        int b = keeper.told(x, 0);
        while (b != NumberKeeper.NONE && all.length() < MOST_BYTES) {
            all.append((char) b);
            b = keeper.told(x, all.length());
        }
        return all.toString();
    }

    String text(int m) {
        StringBuilder all = new StringBuilder();
        int b = keeper.text(m, 0);
        while (b != NumberKeeper.NONE && all.length() < MOST_BYTES) {
            all.append((char) b);
            b = keeper.text(m, all.length());
        }
        due("bytes of mention " + m, keeper.about(m, 5), all.length());
        return all.toString();
    }

    /** A finding as "begin-end kind meanings first". */
    String finding(int i) {
        return keeper.finding(i, 0) + "-" + keeper.finding(i, 1) + " " + keeper.finding(i, 2) + " "
                + keeper.finding(i, 3) + " " + keeper.finding(i, 4);
    }

    /** All that thing() tells of one, what 0 to 8. */
    String thing(int x) {
        int[] all = new int[9];
        for (int what = 0; what < all.length; what++) {
            all[what] = keeper.thing(x, what);
        }
        return row(all);
    }

    /** All that about() tells of a mention, what 0 to 5. */
    String about(int m) {
        int[] all = new int[6];
        for (int what = 0; what < all.length; what++) {
            all[what] = keeper.about(m, what);
        }
        return row(all);
    }

    /** What count() tells of things, those there, mentions, editions, the log and the tape. */
    String counts() {
        int[] all = new int[6];
        for (int what = 0; what < all.length; what++) {
            all[what] = keeper.count(what);
        }
        return row(all);
    }

    private static String row(int[] all) {
        String text = Arrays.toString(all);
        return text.substring(1, text.length() - 1).replace(",", "");
    }

    private int[] places() {
        int[] all = new int[MOST_PLACES];
        int size = 0;
        int x = keeper.at(0);
        while (x != NumberKeeper.NONE && size < MOST_PLACES) {
            all[size] = x;
            size++;
            x = keeper.at(size);
        }
        return Arrays.copyOf(all, size);
    }

    /** The order of the text, as the numbers of its things. */
    String order() {
        return row(places());
    }

    /** The tree as each thing in the order with what it hangs on, the how-manyth there. */
    String tree() {
        StringBuilder all = new StringBuilder();
        for (int x : places()) {
            all.append(all.length() == 0 ? "" : " ").append(x).append(':').append(keeper.thing(x, 1)).append('/')
                    .append(keeper.thing(x, 2));
        }
        return all.toString();
    }

    void finish() {
        System.out.println(test + ": " + asked + " answers, " + wrong + " wrong");
        if (wrong != 0) {
            System.exit(1);
        }
    }
}
