import java.util.Random;

/** Random runs of 512 calls, with fixed seeds: every answer is that of the plain model. */
public final class ModelTest {
    private static final String[] WORDS = {"Part", "Par", "Note", "P", "", "Section", "abcdefghij", "Note"};
    private static final String[] CALL_NAMES = {"feed", "end", "word", "form", "add", "move", "cut", "join", "undo",
        "thing", "at", "told", "twins", "mention", "range", "frozen", "about", "text", "trouble", "edition", "old",
        "leads", "changed", "read", "finding", "count"};
    private static final int ADD = 4;

    private final Random random;
    private final Twin twin = new Twin();
    private final PlainModel model = twin.model;
    private final int[] weights = new int[CALL_NAMES.length];

    private ModelTest(long seed) {
        random = new Random(seed);
        for (int i = 0; i < weights.length; i++) {
            weights[i] = random.nextInt(10);
        }
        // Other runs would seldom have many things.
        weights[ADD] += random.nextInt(40);
        weights[6] = random.nextInt(3);
        weights[8] = random.nextInt(6);
        weights[0] = random.nextInt(3);
    }

    public static void main(String[] args) {
        int runs = args.length > 0 ? Integer.parseInt(args[0]) : 600;
        long from = args.length > 1 ? Long.parseLong(args[1]) : 1;
        int wrong = 0;
        for (long seed = from; seed < from + runs && wrong < 5; seed++) {
            ModelTest test = new ModelTest(seed);
            if (!test.isRunRight()) {
                wrong++;
                System.out.println("seed " + seed + ": ");
                test.twin.tell();
            }
        }
        System.out.println("ModelTest: " + runs + " runs, " + wrong + " wrong");
        if (wrong != 0) {
            System.exit(1);
        }
    }

    private boolean isRunRight() {
        int all = 0;
        for (int w : weights) {
            all += w;
        }
        for (int kind = 0; kind < 6; kind++) {
            setWord(kind, WORDS[random.nextInt(WORDS.length)]);
            if (random.nextInt(4) > 0) {
                call("form", kind, random.nextInt(8), random.nextInt(5), random.nextInt(3));
            }
        }
        if (random.nextInt(3) == 0) {
            addMany();
        }
        while (twin.goesOn()) {
            int n = random.nextInt(all);
            int call = 0;
            while (n >= weights[call]) {
                n -= weights[call];
                call++;
            }
            oneOf(CALL_NAMES[call]);
        }
        return !twin.isWrong;
    }

    /** Many things of few kinds, deep or flat, for long numbers, high counts and full rows. */
    private void addMany() {
        int kindsUsed = 1 + random.nextInt(3);
        int depth = random.nextInt(4);
        int last = -1;
        int many = random.nextInt(130);
        for (int i = 0; i < many; i++) {
            int on = random.nextInt(4) < depth ? last : -1;
            last = call("add", random.nextInt(kindsUsed), on, upTo(kidsOf(on) + 1));
        }
        int moves = random.nextInt(5) == 0 ? 110 : 0;
        for (int i = 0; i < moves; i++) {
            call("move", aThing(), -1, 0);
        }
        int mentions = random.nextInt(5) == 0 ? 110 : 0;
        for (int i = 0; i < mentions; i++) {
            int a = upTo(model.count(1));
            call("range", aThing(), random.nextInt(kindsUsed), a, a + random.nextInt(20));
        }
    }

    private int upTo(int n) {
        return n <= 0 ? 0 : random.nextInt(n);
    }

    /** Mostly a number below n, now and then one that can't be. */
    private int near(int n) {
        switch (random.nextInt(40)) {
            case 0:
                return -1 - random.nextInt(3);
            case 1:
                return n + random.nextInt(3);
            case 2:
                return random.nextInt();
            case 3:
                return random.nextBoolean() ? Integer.MIN_VALUE : Integer.MAX_VALUE;
            default:
                return upTo(n);
        }
    }

    private int aThing() {
        return random.nextInt(4) == 0 ? near(model.count(0)) : model.at(near(model.count(1)));
    }

    private int aHost() {
        return random.nextInt(5) == 0 ? -1 : aThing();
    }

    private int kidsOf(int on) {
        if (on >= 0) {
            return Math.max(0, model.thing(on, 3));
        }
        int kids = 0;
        for (int place = 0; place < model.count(1); place++) {
            kids += model.thing(model.at(place), 1) == -1 ? 1 : 0;
        }
        return kids;
    }

    private void oneOf(String name) {
        switch (name) {
            case "feed":
                call(name, random.nextInt(), random.nextInt(), random.nextInt(), random.nextInt(), random.nextInt());
                break;
            case "end":
                call(name, near(model.count(5) + 1));
                break;
            case "word":
                setWord(near(6), random.nextInt(6) == 0 ? "No 1" : WORDS[random.nextInt(WORDS.length)]);
                break;
            case "form":
                call(name, near(6), near(8), near(5), near(3));
                break;
            case "add": {
                int on = aHost();
                call(name, near(6), on, near(kidsOf(on) + 1));
                break;
            }
            case "move": {
                int on = aHost();
                call(name, aThing(), on, near(kidsOf(on) + 1));
                break;
            }
            case "join":
                joinTwo();
                break;
            case "cut":
                call(name, aThing());
                break;
            case "at":
                call(name, near(model.count(1) + 1));
                break;
            case "told":
                tellAll(aThing());
                break;
            case "thing":
                call(name, aThing(), near(9));
                break;
            default:
                oneMore(name);
                break;
        }
    }

    private void oneMore(String name) {
        switch (name) {
            case "mention": {
                int kind = near(4);
                call(name, aThing(), kind, kind == 0 ? aThing() : near(6));
                break;
            }
            case "range": {
                int a = near(model.count(1));
                call(name, aThing(), near(6), a, random.nextBoolean() ? near(model.count(1)) : a + random.nextInt(20));
                break;
            }
            case "frozen":
                call(name, aThing(), near(model.count(0)), near(model.count(3)));
                break;
            case "about":
                call(name, near(model.count(2)), near(6));
                break;
            case "text":
                textOf(near(model.count(2)));
                break;
            case "edition":
                if (random.nextInt(4) == 0) {
                    call(name);
                }
                break;
            case "old":
                setTape(toldText(model.at(near(model.count(1))), true));
                call(name, near(model.count(3)), near(6));
                break;
            case "leads":
                call(name, near(model.count(3)), near(model.count(0)));
                break;
            case "changed":
                call(name, near(model.count(3)));
                break;
            case "read":
                readText();
                break;
            case "finding":
                call(name, near(5), near(5));
                break;
            case "count":
                call(name, random.nextBoolean() ? near(6) : near(50));
                break;
            default:
                call(name);
                break;
        }
    }

    private void joinTwo() {
        int x = aThing();
        int y = aThing();
        // Two neighbours of one kind are rare among any two: look for them.
        for (int place = upTo(model.count(1)); place < model.count(1) && random.nextInt(8) > 0; place++) {
            int a = model.at(place);
            for (int p = place + 1; p < model.count(1); p++) {
                int b = model.at(p);
                if (model.thing(a, 1) == model.thing(b, 1) && model.thing(a, 2) + 1 == model.thing(b, 2)
                        && model.thing(a, 0) == model.thing(b, 0)) {
                    x = a;
                    y = b;
                }
            }
        }
        call("join", x, y);
    }

    private void tellAll(int x) {
        int from = random.nextInt(4) == 0 ? near(20) : 0;
        for (int i = from; twin.goesOn(); i++) {
            if (call("told", x, i) == -1) {
                return;
            }
        }
    }

    private void textOf(int m) {
        call("about", m, 5);
        int from = random.nextInt(4) == 0 ? near(60) : 0;
        for (int i = from; twin.goesOn() && i < from + 60; i++) {
            if (call("text", m, i) == -1) {
                return;
            }
        }
    }

    private String toldText(int x, boolean numberAlone) {
        StringBuilder all = new StringBuilder();
        for (int i = 0; model.told(x, i) != -1; i++) {
            all.append((char) model.told(x, i));
        }
        int blank = all.indexOf(" ");
        return numberAlone && blank >= 0 ? all.substring(blank + 1) : all.toString();
    }

    private void readText() {
        String[] between = {" ", ", ", "", "x", ".", "(", ") ", "1", "Z ", "\u00ff", " see "};
        String[] loose = {"Part 1", "Note (a)", "P 1.1", "Par i", "Section II", "P b", "Part", "Note A", "Part 2.1(a)"};
        StringBuilder all = new StringBuilder();
        int pieces = random.nextInt(8);
        for (int i = 0; i < pieces; i++) {
            all.append(random.nextBoolean() ? loose[random.nextInt(loose.length)]
                    : toldText(model.at(upTo(model.count(1))), false));
            if (random.nextInt(3) == 0 && all.length() > 0) {
                all.setLength(all.length() - 1);
            }
            all.append(between[random.nextInt(between.length)]);
        }
        setTape(all.substring(0, Math.min(all.length(), 600)));
        int found = call("read", aThing());
        for (int i = 0; i <= found && i < 4; i++) {
            for (int what = 0; what < 5; what++) {
                call("finding", i, what);
            }
        }
    }

    private void setWord(int kind, String word) {
        setTape(word);
        call("word", kind);
    }

    private void setTape(String text) {
        twin.setTape(text);
    }

    private int call(String name, int... a) {
        return twin.call(name, a);
    }
}
