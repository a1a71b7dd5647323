import java.util.ArrayList;
import java.util.Arrays;
import java.util.HashMap;
import java.util.HashSet;
import java.util.List;
import java.util.Map;
import java.util.Set;

/**
 * A second reading of the document, slow and plain: lists and texts, every answer found anew from the
 * words of the promise, and undo by whole copies of the tree.
 */
final class PlainModel {
    private static final int NONE = -1;
    private static final int RANGE = -2;
    private static final int FULL = -3;
    private static final int TEXT = -1;

    /** What changes can change. */
    private static final class State {
        final Map<Integer, List<Integer>> kids = new HashMap<>();
        final Map<Integer, Integer> into = new HashMap<>();

        State copy() {
            State other = new State();
            kids.forEach((x, list) -> other.kids.put(x, new ArrayList<>(list)));
            other.into.putAll(into);
            return other;
        }
    }

    private record Mention(int in, int kind, List<Integer> meant, int ofKind, String frozen) { }

    private record Edition(Map<Integer, String> told, Map<Integer, String> number) { }

    private StringBuilder tape = new StringBuilder();
    private final String[] word = new String[6];
    private final int[] scope = new int[6];
    private final int[] style = new int[6];
    private final int[] join = new int[6];
    private final List<Integer> kinds = new ArrayList<>();
    private State state = new State();
    private final List<State> log = new ArrayList<>();
    private final List<Mention> mentions = new ArrayList<>();
    private final List<Edition> editions = new ArrayList<>();
    private List<int[]> findings = new ArrayList<>();
    private final Map<Integer, String> numbers = new HashMap<>();

    PlainModel() {
        Arrays.fill(word, "");
        state.kids.put(TEXT, new ArrayList<>());
    }

    // ---- the tree, as the state has it: a thing is there if it hangs somewhere

    private int upOf(int x) {
        for (Map.Entry<Integer, List<Integer>> e : state.kids.entrySet()) {
            if (e.getValue().contains(x)) {
                return e.getKey();
            }
        }
        return -9;
    }

    private List<Integer> kidsOf(int x) {
        return state.kids.computeIfAbsent(x, any -> new ArrayList<>());
    }

    private void walk(int x, List<Integer> out) {
        for (int kid : kidsOf(x)) {
            out.add(kid);
            walk(kid, out);
        }
    }

    private List<Integer> below(int x) {
        List<Integer> all = new ArrayList<>();
        walk(x, all);
        return all;
    }

    private List<Integer> order() {
        return below(TEXT);
    }

    private boolean there(int x) {
        return x >= 0 && order().contains(x);
    }

    private List<Integer> above(int x) {
        List<Integer> all = new ArrayList<>();
        for (int a = upOf(x); a != TEXT; a = upOf(a)) {
            all.add(a);
        }
        return all;
    }

    private int lead(int x) {
        return state.into.containsKey(x) ? lead(state.into.get(x)) : x;
    }

    // ---- numbers

    private int nearest(int x, int kind) {
        for (int a : above(x)) {
            if (kinds.get(a) == kind) {
                return a;
            }
        }
        return NONE;
    }

    private int countOf(int x) {
        int kind = kinds.get(x);
        List<Integer> within;
        if (scope[kind] == 0) {
            within = kidsOf(upOf(x));
        } else if (scope[kind] == 1) {
            within = order();
        } else {
            int a = nearest(x, scope[kind] - 2);
            within = below(a);
        }
        int n = 1;
        for (int y : within) {
            if (y == x) {
                return n;
            }
            if (kinds.get(y) == kind) {
                n++;
            }
        }
        throw new IllegalStateException("not within its scope");
    }

    private int baseOf(int x) {
        int kind = kinds.get(x);
        int base = scope[kind] >= 2 ? nearest(x, scope[kind] - 2) : upOf(x);
        return base != NONE && numberOf(base).length() > 30 ? NONE : base;
    }

    private static String roman(int n) {
        int[] values = {400, 100, 90, 50, 40, 10, 9, 5, 4, 1};
        String[] signs = {"cd", "c", "xc", "l", "xl", "x", "ix", "v", "iv", "i"};
        StringBuilder all = new StringBuilder();
        int rest = n;
        for (int i = 0; i < values.length; i++) {
            while (rest >= values[i]) {
                all.append(signs[i]);
                rest -= values[i];
            }
        }
        return all.toString();
    }

    private static String letters(int n) {
        String all = "a";
        for (int i = 1; i < n; i++) {
            all = after(all);
        }
        return all;
    }

    private static String after(String s) {
        if (s.isEmpty()) {
            return "a";
        }
        char last = s.charAt(s.length() - 1);
        String head = s.substring(0, s.length() - 1);
        return last == 'z' ? after(head) + "a" : head + (char) (last + 1);
    }

    private String signOf(int x) {
        int n = countOf(x);
        switch (style[kinds.get(x)]) {
            case 1:
                return letters(n);
            case 2:
                return letters(n).toUpperCase();
            case 3:
                return roman(n);
            case 4:
                return roman(n).toUpperCase();
            default:
                return Integer.toString(n);
        }
    }

    private String numberOf(int x) {
        String known = numbers.get(x);
        if (known == null) {
            int base = baseOf(x);
            String ahead = base == NONE ? "" : numberOf(base);
            String sign = signOf(x);
            switch (join[kinds.get(x)]) {
                case 0:
                    known = sign;
                    break;
                case 1:
                    known = base == NONE ? sign : ahead + "." + sign;
                    break;
                default:
                    known = ahead + "(" + sign + ")";
                    break;
            }
            numbers.put(x, known);
        }
        return known;
    }

    private String toldOf(int x) {
        String w = word[kinds.get(x)];
        return w.isEmpty() ? numberOf(x) : w + " " + numberOf(x);
    }

    // ---- the calls

    /** The numbers are kept within one call alone. */
    private void begin() {
        numbers.clear();
    }

    private static boolean isKind(int kind) {
        return kind >= 0 && kind < 6;
    }

    private static int byteOf(String s, int i) {
        return i >= 0 && i < s.length() ? s.charAt(i) : NONE;
    }

    private String take() {
        String all = tape.toString();
        tape = new StringBuilder();
        return all;
    }

    int feed(int a, int b, int c, int d, int e) {
        if (tape.length() > 580) {
            return FULL;
        }
        for (int four : new int[] {a, b, c, d, e}) {
            for (int shift = 24; shift >= 0; shift -= 8) {
                tape.append((char) (four >> shift & 255));
            }
        }
        return tape.length();
    }

    int end(int n) {
        if (n < 0 || n > tape.length()) {
            return NONE;
        }
        tape.setLength(n);
        return n;
    }

    int word(int kind) {
        String w = take();
        if (!isKind(kind) || !w.matches("[A-Za-z]{0,10}")) {
            return RANGE;
        }
        word[kind] = w;
        return w.length();
    }

    int form(int kind, int s, int st, int j) {
        if (!isKind(kind) || s < 0 || s > 7 || st < 0 || st > 4 || j < 0 || j > 2) {
            return RANGE;
        }
        scope[kind] = s;
        style[kind] = st;
        join[kind] = j;
        return 1;
    }

    private boolean isHost(int on) {
        return on == TEXT || there(on);
    }

    int add(int kind, int on, int i) {
        if (!isKind(kind) || !isHost(on) || i < 0 || i > kidsOf(on).size()) {
            return RANGE;
        }
        if (kinds.size() == 120 || log.size() == 200) {
            return FULL;
        }
        log.add(state.copy());
        int x = kinds.size();
        kinds.add(kind);
        kidsOf(on).add(i, x);
        return x;
    }

    int move(int x, int on, int i) {
        if (!there(x) || !isHost(on) || on == x || below(x).contains(on)) {
            return RANGE;
        }
        List<Integer> rest = new ArrayList<>(kidsOf(on));
        rest.remove((Integer) x);
        if (i < 0 || i > rest.size()) {
            return RANGE;
        }
        if (log.size() == 200) {
            return FULL;
        }
        begin();
        Map<Integer, String> ahead = new HashMap<>();
        for (int y : order()) {
            ahead.put(y, numberOf(y));
        }
        log.add(state.copy());
        kidsOf(upOf(x)).remove((Integer) x);
        kidsOf(on).add(i, x);
        begin();
        int others = 0;
        for (int y : order()) {
            others += numberOf(y).equals(ahead.get(y)) ? 0 : 1;
        }
        return others;
    }

    int cut(int x) {
        if (!there(x)) {
            return RANGE;
        }
        if (log.size() == 200) {
            return FULL;
        }
        log.add(state.copy());
        List<Integer> gone = below(x);
        gone.add(x);
        kidsOf(upOf(x)).remove((Integer) x);
        for (int y : gone) {
            kidsOf(y).clear();
        }
        return gone.size();
    }

    int join(int x, int y) {
        if (!there(x) || !there(y) || upOf(x) != upOf(y) || !kinds.get(x).equals(kinds.get(y))) {
            return RANGE;
        }
        List<Integer> same = kidsOf(upOf(x));
        if (same.indexOf(x) + 1 != same.indexOf(y)) {
            return RANGE;
        }
        if (log.size() == 200) {
            return FULL;
        }
        log.add(state.copy());
        same.remove((Integer) y);
        kidsOf(x).addAll(kidsOf(y));
        kidsOf(y).clear();
        state.into.put(y, x);
        return kidsOf(x).size();
    }

    int undo() {
        if (log.isEmpty()) {
            return NONE;
        }
        state = log.remove(log.size() - 1);
        return log.size();
    }

    int thing(int x, int what) {
        if (x < 0 || x >= kinds.size()) {
            return -10;
        }
        begin();
        boolean is = there(x);
        switch (what) {
            case 0:
                return kinds.get(x);
            case 1:
                return is ? upOf(x) : -9;
            case 2:
                return is ? kidsOf(upOf(x)).indexOf(x) : -9;
            case 3:
                return kidsOf(x).size();
            case 4:
                return is ? countOf(x) : 0;
            case 5:
                return order().indexOf(x);
            case 6:
                return is ? 1 : 0;
            case 7:
                return state.into.getOrDefault(x, NONE);
            case 8:
                return is ? baseOf(x) : NONE;
            default:
                return -10;
        }
    }

    int at(int place) {
        List<Integer> all = order();
        return place >= 0 && place < all.size() ? all.get(place) : NONE;
    }

    int told(int x, int i) {
        begin();
        return there(x) ? byteOf(toldOf(x), i) : NONE;
    }

    int twins() {
        begin();
        int pairs = 0;
        List<Integer> all = order();
        for (int x : all) {
            for (int y : all) {
                if (x < y && kinds.get(x).equals(kinds.get(y)) && numberOf(x).equals(numberOf(y))) {
                    pairs++;
                }
            }
        }
        return pairs;
    }

    private int keep(Mention m) {
        if (mentions.size() == 100) {
            return FULL;
        }
        mentions.add(m);
        return mentions.size() - 1;
    }

    int mention(int in, int kind, int of) {
        if (!there(in) || kind < 0 || kind > 3 || kind == 1 || (kind == 0 ? !there(of) : !isKind(of))) {
            return RANGE;
        }
        return keep(new Mention(in, kind, kind == 0 ? List.of(of) : List.of(), of, null));
    }

    int range(int in, int kind, int a, int b) {
        List<Integer> all = order();
        if (!there(in) || !isKind(kind) || a < 0 || b < 0 || a >= all.size() || b >= all.size() || a > b) {
            return RANGE;
        }
        List<Integer> meant = new ArrayList<>(all.subList(a, b + 1));
        meant.removeIf(x -> kinds.get(x) != kind);
        if (meant.size() < 2 || meant.size() > 12) {
            return RANGE;
        }
        return keep(new Mention(in, 1, meant, kind, null));
    }

    private boolean isEdition(int e) {
        return e >= 0 && e < editions.size();
    }

    int frozen(int in, int of, int e) {
        if (!there(in) || !isEdition(e) || !editions.get(e).told.containsKey(of)) {
            return RANGE;
        }
        return keep(new Mention(in, 4, List.of(of), NONE, editions.get(e).told.get(of)));
    }

    /** The things that are there to which a mention leads, in the order. */
    private List<Integer> means(Mention m) {
        List<Integer> all = order();
        if (m.kind == 2 || m.kind == 3) {
            int place = all.indexOf(lead(m.in));
            int best = NONE;
            for (int p = 0; p < all.size() && place >= 0; p++) {
                boolean fits = kinds.get(all.get(p)) == m.ofKind;
                if (fits && m.kind == 3 && p < place) {
                    best = all.get(p);
                }
                if (fits && m.kind == 2 && p > place && best == NONE) {
                    best = all.get(p);
                }
            }
            return best == NONE ? List.of() : List.of(best);
        }
        Set<Integer> wanted = new HashSet<>();
        for (int x : m.meant) {
            wanted.add(lead(x));
        }
        all.removeIf(x -> !wanted.contains(x));
        return all;
    }

    private List<String> runs(List<Integer> things) {
        List<String> all = new ArrayList<>();
        int from = 0;
        for (int i = 1; i <= things.size(); i++) {
            boolean goesOn = i < things.size() && baseOf(things.get(i)) == baseOf(things.get(i - 1))
                    && countOf(things.get(i)) == countOf(things.get(i - 1)) + 1;
            if (!goesOn) {
                String first = numberOf(things.get(from));
                all.add(i - from == 1 ? first : first + " to " + numberOf(things.get(i - 1)));
                from = i;
            }
        }
        return all;
    }

    private String textOf(Mention m) {
        List<Integer> things = means(m);
        if (!there(lead(m.in))) {
            return "";
        }
        if (m.kind == 4) {
            return m.frozen;
        }
        if (things.isEmpty()) {
            return "";
        }
        if (m.kind == 1) {
            String w = word[m.ofKind];
            return (w.isEmpty() ? "" : w + " ") + String.join(", ", runs(things));
        }
        return toldOf(things.get(0));
    }

    private int goneOf(Mention m) {
        int gone = 0;
        for (int x : m.meant) {
            gone += there(lead(x)) ? 0 : 1;
        }
        return gone;
    }

    int about(int m, int what) {
        if (m < 0 || m >= mentions.size()) {
            return -10;
        }
        begin();
        Mention it = mentions.get(m);
        List<Integer> things = means(it);
        String text = textOf(it);
        switch (what) {
            case 0:
                return it.kind;
            case 1:
                return lead(it.in);
            case 2:
                return things.isEmpty() ? NONE : things.get(0);
            case 3:
                return text.isEmpty() ? 0 : it.kind == 1 ? runs(things).size() : 1;
            case 4:
                return goneOf(it);
            case 5:
                return text.length();
            default:
                return -10;
        }
    }

    int text(int m, int i) {
        begin();
        return m < 0 || m >= mentions.size() ? NONE : byteOf(textOf(mentions.get(m)), i);
    }

    int trouble() {
        begin();
        int troubled = 0;
        for (Mention m : mentions) {
            boolean bad = textOf(m).isEmpty() || goneOf(m) > 0 || m.kind == 1 && runs(means(m)).size() > 1;
            troubled += there(lead(m.in)) && bad ? 1 : 0;
        }
        return troubled;
    }

    int edition() {
        if (editions.size() == 8) {
            return FULL;
        }
        begin();
        Edition e = new Edition(new HashMap<>(), new HashMap<>());
        for (int x : order()) {
            e.told.put(x, toldOf(x));
            e.number.put(x, numberOf(x));
        }
        editions.add(e);
        return editions.size() - 1;
    }

    int old(int e, int kind) {
        String number = take();
        if (!isEdition(e) || !isKind(kind)) {
            return RANGE;
        }
        for (int x = 0; x < kinds.size(); x++) {
            if (kinds.get(x) == kind && number.equals(editions.get(e).number.get(x))) {
                return x;
            }
        }
        return NONE;
    }

    int leads(int e, int x) {
        if (!isEdition(e) || !editions.get(e).told.containsKey(x)) {
            return RANGE;
        }
        return there(lead(x)) ? lead(x) : NONE;
    }

    int changed(int e) {
        if (!isEdition(e)) {
            return RANGE;
        }
        begin();
        int others = 0;
        for (Map.Entry<Integer, String> kept : editions.get(e).told.entrySet()) {
            int now = lead(kept.getKey());
            others += there(now) && toldOf(now).equals(kept.getValue()) ? 0 : 1;
        }
        return others;
    }

    private List<Integer> meanings(String part, int kind, int in) {
        List<Integer> near = above(in);
        near.add(in);
        List<Integer> all = order();
        all.removeIf(x -> {
            if (kinds.get(x) != kind) {
                return true;
            }
            String sign = join[kind] == 2 ? "(" + signOf(x) + ")" : signOf(x);
            return !part.equals(numberOf(x)) && !(part.equals(sign) && near.contains(baseOf(x)));
        });
        return all;
    }

    private static boolean isLetter(char b) {
        return b >= 'A' && b <= 'Z' || b >= 'a' && b <= 'z';
    }

    private int kindAt(String text, int from) {
        int best = NONE;
        for (int k = 0; k < 6; k++) {
            if (!word[k].isEmpty() && text.startsWith(word[k] + " ", from)
                    && (best == NONE || word[k].length() > word[best].length())) {
                best = k;
            }
        }
        return best;
    }

    int read(int in) {
        String text = take();
        if (!there(in)) {
            return RANGE;
        }
        begin();
        findings = new ArrayList<>();
        int from = 0;
        while (from < text.length()) {
            int kind = from > 0 && isLetter(text.charAt(from - 1)) ? NONE : kindAt(text, from);
            int start = kind == NONE ? from : from + word[kind].length() + 1;
            int stop = start;
            while (kind != NONE && stop < text.length() && text.substring(stop, stop + 1).matches("[0-9a-zA-Z.()]")) {
                stop++;
            }
            if (stop == start) {
                from++;
                continue;
            }
            int[] finding = {from, stop, kind, 0, NONE};
            // No NUMBER has more than 40 bytes.
            for (int end = Math.min(stop, start + 50); end > start; end--) {
                List<Integer> meant = meanings(text.substring(start, end), kind, in);
                if (!meant.isEmpty()) {
                    finding = new int[] {from, end, kind, meant.size(), meant.get(0)};
                    break;
                }
            }
            findings.add(finding);
            from = finding[1];
        }
        return findings.size();
    }

    int finding(int i, int what) {
        boolean such = i >= 0 && i < findings.size() && i < 40 && what >= 0 && what < 5;
        return such ? findings.get(i)[what] : -10;
    }

    int count(int what) {
        int k = what % 10;
        switch (what) {
            case 0:
                return kinds.size();
            case 1:
                return order().size();
            case 2:
                return mentions.size();
            case 3:
                return editions.size();
            case 4:
                return log.size();
            case 5:
                return tape.length();
            default:
                break;
        }
        if (what < 10 || what > 49 || k > 5) {
            return NONE;
        }
        return what < 20 ? scope[k] : what < 30 ? style[k] : what < 40 ? join[k] : word[k].length();
    }
}
