import java.util.ArrayList;
import java.util.List;

/** A keeper and the plain model side by side: every call is made on both, and their answers are compared. */
final class Twin {
    private static final int CALLS = 512;

    final PlainModel model = new PlainModel();
    private final NumberKeeper keeper = new NumberKeeper();
    private final List<String> run = new ArrayList<>();
    boolean isWrong;

    /** Whether there may be calls more: an object has 512, and behind a wrong answer none is of use. */
    boolean goesOn() {
        return run.size() < CALLS && !isWrong;
    }

    void tell() {
        run.forEach(call -> System.out.println("  " + call));
    }

    /** What the model answers; NONE when the run is over. */
    int call(String name, int... a) {
        if (!goesOn()) {
            return -1;
        }
        int got = ofKeeper(name, a);
        int want = ofModel(name, a);
        isWrong = got != want;
        StringBuilder told = new StringBuilder(name).append('(');
        for (int i = 0; i < a.length; i++) {
            told.append(i == 0 ? "" : ", ").append(a[i]);
        }
        run.add(told.append(") = ").append(got).append(isWrong ? ", due is " + want : "").toString());
        return want;
    }

    void setTape(String text) {
        call("end", 0);
        for (int from = 0; from < text.length(); from += 20) {
            call("feed", Check.four(text, from), Check.four(text, from + 4), Check.four(text, from + 8),
                    Check.four(text, from + 12), Check.four(text, from + 16));
        }
        call("end", text.length());
    }

    private int ofKeeper(String name, int[] a) {
        switch (name) {
            case "feed": return keeper.feed(a[0], a[1], a[2], a[3], a[4]);
            case "end": return keeper.end(a[0]);
            case "word": return keeper.word(a[0]);
            case "form": return keeper.form(a[0], a[1], a[2], a[3]);
            case "add": return keeper.add(a[0], a[1], a[2]);
            case "move": return keeper.move(a[0], a[1], a[2]);
            case "cut": return keeper.cut(a[0]);
            case "join": return keeper.join(a[0], a[1]);
            case "undo": return keeper.undo();
            case "thing": return keeper.thing(a[0], a[1]);
            case "at": return keeper.at(a[0]);
            case "told": return keeper.told(a[0], a[1]);
            case "twins": return keeper.twins();
            case "mention": return keeper.mention(a[0], a[1], a[2]);
            case "range": return keeper.range(a[0], a[1], a[2], a[3]);
            case "frozen": return keeper.frozen(a[0], a[1], a[2]);
            case "about": return keeper.about(a[0], a[1]);
            case "text": return keeper.text(a[0], a[1]);
            case "trouble": return keeper.trouble();
            case "edition": return keeper.edition();
            case "old": return keeper.old(a[0], a[1]);
            case "leads": return keeper.leads(a[0], a[1]);
            case "changed": return keeper.changed(a[0]);
            case "read": return keeper.read(a[0]);
            case "finding": return keeper.finding(a[0], a[1]);
            default: return keeper.count(a[0]);
        }
    }

    private int ofModel(String name, int[] a) {
        switch (name) {
            case "feed": return model.feed(a[0], a[1], a[2], a[3], a[4]);
            case "end": return model.end(a[0]);
            case "word": return model.word(a[0]);
            case "form": return model.form(a[0], a[1], a[2], a[3]);
            case "add": return model.add(a[0], a[1], a[2]);
            case "move": return model.move(a[0], a[1], a[2]);
            case "cut": return model.cut(a[0]);
            case "join": return model.join(a[0], a[1]);
            case "undo": return model.undo();
            case "thing": return model.thing(a[0], a[1]);
            case "at": return model.at(a[0]);
            case "told": return model.told(a[0], a[1]);
            case "twins": return model.twins();
            case "mention": return model.mention(a[0], a[1], a[2]);
            case "range": return model.range(a[0], a[1], a[2], a[3]);
            case "frozen": return model.frozen(a[0], a[1], a[2]);
            case "about": return model.about(a[0], a[1]);
            case "text": return model.text(a[0], a[1]);
            case "trouble": return model.trouble();
            case "edition": return model.edition();
            case "old": return model.old(a[0], a[1]);
            case "leads": return model.leads(a[0], a[1]);
            case "changed": return model.changed(a[0]);
            case "read": return model.read(a[0]);
            case "finding": return model.finding(a[0], a[1]);
            default: return model.count(a[0]);
        }
    }
}
