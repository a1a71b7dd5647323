/** What the tests share: a keeper to call with texts instead of bytes, and a tally of wrong answers. */
final class Check {
    private static final int MOST_BYTES = 700;

    private final String test;
    private String part = "";
    private int wrong;
    private int asked;
    NumberKeeper keeper;

    Check(String test) {
        this.test = test;
    }

    /** Begins a part of the test, on a new object. */
    NumberKeeper fresh(String name) {
        part = name;
        keeper = new NumberKeeper();
        return keeper;
    }

    void due(String what, int got, int want) {
        asked++;
        if (got != want) {
            wrong++;
            System.out.println(test + ", " + part + ": " + what + " answered " + got + ", due is " + want);
        }
    }

    void due(String what, String got, String want) {
        asked++;
        if (!got.equals(want)) {
            wrong++;
            System.out.println(test + ", " + part + ": " + what + " answered '" + got + "', due is '" + want + "'");
        }
    }

    /** The whole tape is this text. */
    void tape(String text) {
        keeper.end(0);
        for (int from = 0; from < text.length(); from += 20) {
            keeper.feed(four(text, from), four(text, from + 4), four(text, from + 8), four(text, from + 12),
                    four(text, from + 16));
        }
        due("end of the tape", keeper.end(text.length()), text.length());
    }

    static int four(String text, int from) {
        int all = 0;
        for (int i = from; i < from + 4; i++) {
            all = all << 8 | (i < text.length() ? text.charAt(i) & 255 : 0);
        }
        return all;
    }

    int word(int kind, String word) {
        tape(word);
        return keeper.word(kind);
    }

    int old(int e, int kind, String number) {
        tape(number);
        return keeper.old(e, kind);
    }

    int read(int in, String text) {
        tape(text);
        return keeper.read(in);
    }

    String told(int x) {
        StringBuilder all = new StringBuilder();
        for (int i = 0; i < MOST_BYTES && keeper.told(x, i) != NumberKeeper.NONE; i++) {
            all.append((char) keeper.told(x, i));
        }
        return all.toString();
    }

    String text(int m) {
        StringBuilder all = new StringBuilder();
        for (int i = 0; i < MOST_BYTES && keeper.text(m, i) != NumberKeeper.NONE; i++) {
            all.append((char) keeper.text(m, i));
        }
        due("bytes of mention " + m, keeper.about(m, 5), all.length());
        return all.toString();
    }

    /** A finding as "begin-end kind meanings first". */
    String finding(int i) {
        return keeper.finding(i, 0) + "-" + keeper.finding(i, 1) + " " + keeper.finding(i, 2) + " "
                + keeper.finding(i, 3) + " " + keeper.finding(i, 4);
    }

    /** The order of the text, as the numbers of its things. */
    String order() {
        StringBuilder all = new StringBuilder();
        for (int place = 0; place < 200 && keeper.at(place) != NumberKeeper.NONE; place++) {
            all.append(place == 0 ? "" : " ").append(keeper.at(place));
        }
        return all.toString();
    }

    /** The tree as each thing in the order with what it hangs on, the how-manyth there. */
    String tree() {
        StringBuilder all = new StringBuilder();
        for (int place = 0; place < 200 && keeper.at(place) != NumberKeeper.NONE; place++) {
            int x = keeper.at(place);
            all.append(place == 0 ? "" : " ").append(x).append(':').append(keeper.thing(x, 1)).append('/')
                    .append(keeper.thing(x, 2));
        }
        return all.toString();
    }

    void finish() {
        System.out.println(test + ": " + asked + " answers, " + wrong + " wrong");
        if (wrong != 0) {
            System.exit(1);
        }
    }
}
