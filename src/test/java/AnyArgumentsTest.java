/**
 * "With any arguments, the least and the greatest int among them": in texts that are new, small or full each
 * call is made with every choice of boundary values, and answers as the plain model does; and so does all
 * that can be asked behind it, since what is refused changes nothing.
 */
public final class AnyArgumentsTest {
    private static final int LEAST = Integer.MIN_VALUE;
    private static final int MOST = Integer.MAX_VALUE;
    // The calls that are kept back for looking at the text behind the others.
    private static final int FOR_LOOKING = 60;
    private static final int[] MANY = {LEAST, LEAST + 1, -256, -11, -10, -9, -4, -3, -2, -1, 0, 1, 2, 3, 4, 5, 6, 7, 8,
        9, 10, 11, 12, 13, 15, 16, 39, 40, 41, 45, 46, 50, 99, 100, 119, 120, 199, 200, 255, 256, 599, 600, 601, 65536,
        MOST - 1, MOST};
    private static final int[] SOME = {LEAST, -10, -3, -2, -1, 0, 1, 2, 3, 5, 6, 7, 8, 12, 39, 40, 99, 100, 119, 120,
        MOST};
    private static final int[] FEW = {LEAST, -2, -1, 0, 1, 4, 6, 120, MOST};
    private static final int[] FEWEST = {LEAST, -1, 0, 1, 7, MOST};
    private static final String[][] CALLS = {{"undo", "twins", "trouble", "edition"},
        {"end", "word", "cut", "at", "changed", "read", "count"},
        {"join", "thing", "told", "about", "text", "old", "leads", "finding"}, {"add", "move", "mention", "frozen"},
        {"form", "range"}, {"feed"}};
    private static final int[][] VALUES = {{0}, MANY, SOME, FEW, FEWEST, {LEAST, -1, 0x50203150, MOST}};
    private static final String[] STATES = {"new", "small", "full of things", "full log", "full of the rest"};

    private static int made;

    public static void main(String[] args) {
        for (int state = 0; state < STATES.length; state++) {
            for (int arguments = 0; arguments < CALLS.length; arguments++) {
                for (String name : CALLS[arguments]) {
                    everyChoice(state, name, arguments);
                }
            }
        }
        System.out.println("AnyArgumentsTest: " + made + " calls, 0 wrong");
    }

    /** All choices of values, over as many objects as that takes. */
    private static void everyChoice(int state, String name, int arguments) {
        int[] values = VALUES[arguments];
        int choices = 1;
        for (int i = 0; i < arguments; i++) {
            choices *= values.length;
        }
        int choice = 0;
        while (choice < choices) {
            Twin twin = new Twin();
            int left = 512 - FOR_LOOKING - build(twin, state);
            for (int n = 0; n < left && choice < choices; n++) {
                int[] a = new int[arguments];
                int rest = choice;
                for (int i = 0; i < arguments; i++) {
                    a[i] = values[rest % values.length];
                    rest /= values.length;
                }
                twin.call(name, a);
                choice++;
                made++;
            }
            look(twin);
            if (twin.isWrong) {
                System.out.println("AnyArgumentsTest, " + name + " in a text that is " + STATES[state] + ":");
                twin.tell();
                System.exit(1);
            }
        }
    }

    /** How many calls it took. */
    private static int build(Twin twin, int state) {
        switch (state) {
            case 1:
                return buildSmall(twin);
            case 2:
                for (int x = 0; x < 120; x++) {
                    twin.call("add", x % 2, x % 7 == 6 ? x - 1 : -1, 0);
                }
                return 120;
            case 3:
                for (int n = 0; n < 200; n++) {
                    twin.call(n < 5 ? "add" : "move", n < 5 ? 0 : n % 5, -1, n < 5 ? n : n % 4);
                }
                return 200;
            case 4:
                return buildRest(twin);
            default:
                return 0;
        }
    }

    /** Two words, 0 (1, 2 (3)), 4, 5 joined into 4, 6 cut, an edition, a mention of each kind, some findings. */
    private static int buildSmall(Twin twin) {
        twin.setTape("P");
        twin.call("word", 0);
        twin.call("form", 0, 0, 0, 1);
        twin.call("form", 1, 2, 3, 2);
        int[][] adds = {{0, -1, 0}, {0, 0, 0}, {0, 0, 1}, {1, 2, 0}, {0, -1, 1}, {0, -1, 2}, {0, -1, 3}};
        for (int[] a : adds) {
            twin.call("add", a);
        }
        twin.call("edition");
        twin.call("mention", 1, 0, 6);
        twin.call("range", 5, 0, 0, 5);
        twin.call("mention", 3, 2, 0);
        twin.call("mention", 3, 3, 0);
        twin.call("frozen", 0, 5, 0);
        twin.call("join", 4, 5);
        twin.call("cut", 6);
        twin.setTape("P 1, P 2, P 3");
        twin.call("read", 2);
        twin.setTape("1.2");
        return 4 + 2 + 7 + 1 + 5 + 2 + 4 + 3;
    }

    /** 3 things, 100 mentions, 8 editions, 600 bytes of tape, 40 findings and more. */
    private static int buildRest(Twin twin) {
        twin.setTape("P");
        twin.call("word", 0);
        for (int x = 0; x < 3; x++) {
            twin.call("add", 0, -1, x);
        }
        for (int e = 0; e < 8; e++) {
            twin.call("edition");
        }
        for (int m = 0; m < 100; m++) {
            twin.call("mention", m % 3, m % 2 == 0 ? 0 : 2, 0);
        }
        for (int n = 0; n < 2; n++) {
            for (int i = 0; i < 30; i++) {
                twin.call("feed", 0x50203120, 0x50203220, 0x50203320, 0x50203420, 0x20202020);
            }
            if (n == 0) {
                twin.call("read", 0);
            }
        }
        return 4 + 3 + 8 + 100 + 61;
    }

    private static void look(Twin twin) {
        for (int what = 0; what <= 5; what++) {
            twin.call("count", what);
            twin.call("count", 10 + what);
            twin.call("count", 30 + what);
            twin.call("at", what);
            twin.call("thing", what, 1);
            twin.call("thing", 7 - what, 6);
            twin.call("told", what, 0);
            twin.call("about", what, what);
        }
        twin.call("twins");
        twin.call("trouble");
        twin.call("changed", 0);
        twin.call("finding", 0, 1);
        twin.call("undo");
        twin.call("count", 1);
        twin.call("edition");
        twin.call("mention", 0, 2, 0);
        twin.call("add", 0, -1, 0);
        twin.call("read", 0);
    }
}
