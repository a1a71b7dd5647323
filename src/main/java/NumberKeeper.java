import java.util.Arrays;

/**
 * Keeps the numbers of a great text: a tree of things, the forms that number them, the mentions
 * that say those numbers, the changes that can be undone, the editions, and the reading of free
 * text for mentions. README.md says how the parts of this file hang together.
 */
public final class NumberKeeper {
    /** There is none. */
    public static final int NONE = -1;
    /** A number that can't be. */
    public static final int RANGE = -2;
    /** No room. */
    public static final int FULL = -3;

    private static final int NO_SUCH = -10;
    private static final int NOWHERE = -9;

    private static final int KINDS = 6;
    private static final int MOST_THINGS = 120;
    private static final int MOST_MENTIONS = 100;
    private static final int MOST_CHANGES = 200;
    private static final int MOST_EDITIONS = 8;
    private static final int MOST_TAPE = 600;
    private static final int MOST_FINDINGS = 40;
    private static final int FED = 20;
    private static final int LEAST_MEANT = 2;
    private static final int MOST_MEANT = 12;

    private static final int MOST_LETTERS = 10;
    private static final int MOST_BASE = 30;
    // The longest SIGN is lxxxviii; brackets may stand around it.
    private static final int MOST_MARK = 10;
    private static final int MOST_NUMBER = MOST_BASE + MOST_MARK;
    // Twelve NUMBERS with what stands between two of them, behind the WORD.
    private static final int MOST_TEXT = MOST_LETTERS + 1 + MOST_MEANT * (MOST_NUMBER + 4);

    private static final int SCOPE_SAME = 0;
    private static final int SCOPE_ABOVE = 2;
    private static final int MOST_SCOPE = SCOPE_ABOVE + KINDS - 1;
    private static final int STYLE_LETTERS = 1;
    private static final int STYLE_CAPITAL_LETTERS = 2;
    private static final int STYLE_ROMAN = 3;
    private static final int STYLE_CAPITAL_ROMAN = 4;
    private static final int JOIN_SIGN = 0;
    private static final int JOIN_DOT = 1;
    private static final int JOIN_BRACKETS = 2;

    private static final int OF_THING = 0;
    private static final int OF_RANGE = 1;
    private static final int OF_NEXT = 2;
    private static final int OF_LATEST = 3;
    private static final int OF_FROZEN = 4;

    private static final int ADDED = 0;
    private static final int MOVED = 1;
    private static final int CUT = 2;
    private static final int JOINED = 3;

    private static final int BLANK = ' ';
    private static final int TO_CAPITAL = 'A' - 'a';

    private final Line tape;
    private final Tree tree;
    private final Numbering numbering;
    private final Change[] log;
    private int logged;
    private final Mention[] mentions;
    private int mentioned;
    private final Teller teller;
    private final Edition[] editions;
    private int edited;
    private final Reader reader;
    private final Line scratch;

    /** A text without things. */
    public NumberKeeper() {
        tape = new Line(MOST_TAPE);
        tree = new Tree();
        numbering = new Numbering(tree.text);
        log = new Change[MOST_CHANGES];
        mentions = new Mention[MOST_MENTIONS];
        teller = new Teller(tree.text);
        editions = new Edition[MOST_EDITIONS];
        reader = new Reader(tape, tree);
        scratch = new Line(MOST_TEXT);
    }

    // ---- the tape

    public int feed(int a, int b, int c, int d, int e) {
        if (tape.size + FED > MOST_TAPE) {
            return FULL;
        }
        tape.putFour(a);
        tape.putFour(b);
        tape.putFour(c);
        tape.putFour(d);
        tape.putFour(e);
        return tape.size;
    }

    public int end(int n) {
        if (n < 0 || n > tape.size) {
            return NONE;
        }
        tape.size = n;
        return n;
    }

    // ---- forms

    public int word(int kind) {
        Form form = tree.formOf(kind);
        int answer = RANGE;
        if (form != null && tape.size <= MOST_LETTERS && tape.isLettersAlone()) {
            form.word.setTo(tape);
            answer = tape.size;
        }
        tape.size = 0;
        return answer;
    }

    public int form(int kind, int scope, int style, int join) {
        Form form = tree.formOf(kind);
        if (form == null || scope < 0 || scope > MOST_SCOPE || style < 0 || style > STYLE_CAPITAL_ROMAN
                || join < 0 || join > JOIN_BRACKETS) {
            return RANGE;
        }
        form.scope = scope;
        form.style = style;
        form.join = join;
        numbering.stale = true;
        return 1;
    }

    // ---- things

    public int add(int kind, int on, int i) {
        Thing host = tree.hostOf(on);
        if (tree.formOf(kind) == null || host == null || i < 0 || i > host.kidCount()) {
            return RANGE;
        }
        if (isLogFull()) {
            return FULL;
        }
        Thing thing = tree.grow(kind);
        if (thing == null) {
            return FULL;
        }
        thing.there = true;
        thing.hangOn(host, i);
        noteChange(new Change(ADDED, thing, host, i, null));
        return thing.number;
    }

    public int move(int x, int on, int i) {
        Thing thing = tree.thereAs(x);
        Thing host = tree.hostOf(on);
        if (thing == null || host == null || host.isWithin(thing)) {
            return RANGE;
        }
        int others = thing.up == host ? host.kidCount() - 1 : host.kidCount();
        if (i < 0 || i > others) {
            return RANGE;
        }
        if (isLogFull()) {
            return FULL;
        }
        numbering.renew();
        numbering.rememberNumbers();
        Change change = new Change(MOVED, thing, thing.up, thing.index(), null);
        thing.leave();
        thing.hangOn(host, i);
        noteChange(change);
        numbering.renew();
        return numbering.countOtherNumbers();
    }

    public int cut(int x) {
        Thing thing = tree.thereAs(x);
        if (thing == null) {
            return RANGE;
        }
        if (isLogFull()) {
            return FULL;
        }
        Change change = new Change(CUT, thing, thing.up, thing.index(), null);
        thing.leave();
        int gone = thing.setAllThere(false);
        noteChange(change);
        return gone;
    }

    public int join(int x, int y) {
        Thing into = tree.thereAs(x);
        Thing thing = tree.thereAs(y);
        if (into == null || thing == null || into.next != thing || into.kind != thing.kind) {
            return RANGE;
        }
        if (isLogFull()) {
            return FULL;
        }
        Change change = new Change(JOINED, thing, thing.up, thing.index(), thing.first);
        thing.leave();
        thing.there = false;
        thing.into = into;
        into.takeKids(thing);
        noteChange(change);
        return into.kidCount();
    }

    public int undo() {
        if (logged <= 0) {
            return NONE;
        }
        logged--;
        Change latest = log[logged];
        if (latest != null) {
            latest.takeBack();
        }
        numbering.stale = true;
        return logged;
    }

    public int thing(int x, int what) {
        Thing thing = tree.numbered(x);
        if (thing == null) {
            return NO_SUCH;
        }
        numbering.renew();
        switch (what) {
            case 0:
                return thing.kind;
            case 1:
                return thing.there && thing.up != null ? thing.up.number : NOWHERE;
            case 2:
                return thing.there ? thing.index() : NOWHERE;
            case 3:
                return thing.there ? thing.kidCount() : 0;
            case 4:
                return thing.there ? thing.count : 0;
            case 5:
                return thing.there ? thing.place : NONE;
            case 6:
                return thing.there ? 1 : 0;
            case 7:
                return numberOf(thing.into);
            case 8:
                return thing.there ? numberOf(thing.base) : NONE;
            default:
                return NO_SUCH;
        }
    }

    public int at(int place) {
        numbering.renew();
        return numberOf(tree.placedAt(place));
    }

    public int told(int x, int i) {
        Thing thing = tree.thereAs(x);
        if (thing == null) {
            return NONE;
        }
        numbering.renew();
        scratch.size = 0;
        thing.tellTo(scratch);
        return scratch.byteAt(i);
    }

    public int twins() {
        numbering.renew();
        int pairs = 0;
        for (Thing t = tree.text.behind; t != null; t = t.behind) {
            for (Thing other = t.behind; other != null; other = other.behind) {
                if (t.kind == other.kind && t.name.isSame(other.name)) {
                    pairs++;
                }
            }
        }
        return pairs;
    }

    // ---- mentions

    public int mention(int in, int kind, int of) {
        Thing place = tree.thereAs(in);
        boolean toThing = kind == OF_THING;
        boolean toKind = kind == OF_NEXT || kind == OF_LATEST;
        Thing meant = toThing ? tree.thereAs(of) : null;
        if (place == null || (toThing && meant == null) || (!toThing && !toKind)
                || (toKind && tree.formOf(of) == null)) {
            return RANGE;
        }
        Mention mention = new Mention(kind, place, toKind ? of : NONE, toThing ? 1 : 0, null);
        mention.addMeant(meant);
        return keepMention(mention);
    }

    public int range(int in, int kind, int a, int b) {
        Thing place = tree.thereAs(in);
        numbering.renew();
        Thing first = tree.placedAt(a);
        if (place == null || tree.formOf(kind) == null || first == null || tree.placedAt(b) == null) {
            return RANGE;
        }
        Mention mention = new Mention(OF_RANGE, place, kind, MOST_MEANT, null);
        int all = 0;
        for (Thing t = first; t != null && t.place <= b; t = t.behind) {
            if (t.kind == kind) {
                mention.addMeant(t);
                all++;
            }
        }
        return all < LEAST_MEANT || all > MOST_MEANT ? RANGE : keepMention(mention);
    }

    public int frozen(int in, int of, int e) {
        Thing place = tree.thereAs(in);
        Thing meant = tree.numbered(of);
        Edition edition = editionOf(e);
        Line kept = edition == null ? null : edition.toldOf(of);
        if (place == null || meant == null || kept == null) {
            return RANGE;
        }
        Mention mention = new Mention(OF_FROZEN, place, NONE, 1, kept);
        mention.addMeant(meant);
        return keepMention(mention);
    }

    public int about(int m, int what) {
        Mention mention = mentionOf(m);
        if (mention == null) {
            return NO_SUCH;
        }
        numbering.renew();
        switch (what) {
            case 0:
                return mention.kind;
            case 1:
                return numberOf(mention.in.lead());
            case 2:
                return numberOf(teller.firstMeant(mention));
            case 3:
                return teller.countRuns(mention);
            case 4:
                return mention.countGone();
            case 5:
                teller.writeText(mention, scratch);
                return scratch.size;
            default:
                return NO_SUCH;
        }
    }

    public int text(int m, int i) {
        Mention mention = mentionOf(m);
        if (mention == null) {
            return NONE;
        }
        numbering.renew();
        teller.writeText(mention, scratch);
        return scratch.byteAt(i);
    }

    public int trouble() {
        numbering.renew();
        int troubled = 0;
        for (int m = 0; m < mentioned; m++) {
            Mention mention = mentionOf(m);
            // RUNS are 0 without text and 1 of all but RANGES.
            if (mention != null && mention.in.leadThere() != null
                    && (mention.countGone() > 0 || teller.countRuns(mention) != 1)) {
                troubled++;
            }
        }
        return troubled;
    }

    // ---- editions

    public int edition() {
        if (edited >= MOST_EDITIONS) {
            return FULL;
        }
        numbering.renew();
        Edition edition = new Edition(tree.size);
        for (Thing t = tree.text.behind; t != null; t = t.behind) {
            scratch.size = 0;
            t.tellTo(scratch);
            edition.keep(t.number, scratch.copy(), t.name.copy());
        }
        editions[edited] = edition;
        edited++;
        return edited - 1;
    }

    public int old(int e, int kind) {
        Edition edition = editionOf(e);
        int answer = edition == null || tree.formOf(kind) == null ? RANGE : firstNamed(edition, kind);
        tape.size = 0;
        return answer;
    }

    public int leads(int e, int x) {
        Edition edition = editionOf(e);
        Thing thing = tree.numbered(x);
        if (edition == null || thing == null || edition.toldOf(x) == null) {
            return RANGE;
        }
        return numberOf(thing.leadThere());
    }

    public int changed(int e) {
        Edition edition = editionOf(e);
        if (edition == null) {
            return RANGE;
        }
        numbering.renew();
        int others = 0;
        for (int x = 0; x < tree.size; x++) {
            Thing thing = tree.numbered(x);
            Line kept = edition.toldOf(x);
            if (thing != null && kept != null && !isStillTold(thing, kept)) {
                others++;
            }
        }
        return others;
    }

    // ---- reading

    public int read(int in) {
        Thing place = tree.thereAs(in);
        int answer = RANGE;
        if (place != null) {
            numbering.renew();
            answer = reader.readTape(place);
        }
        tape.size = 0;
        return answer;
    }

    public int finding(int i, int what) {
        return reader.cell(i, what);
    }

    public int count(int what) {
        switch (what) {
            case 0:
                return tree.size;
            case 1:
                return tree.countThere();
            case 2:
                return mentioned;
            case 3:
                return edited;
            case 4:
                return logged;
            case 5:
                return tape.size;
            default:
                return countOfForm(what);
        }
    }

    // ---- what several calls need

    private int countOfForm(int what) {
        Form form = what < 0 ? null : tree.formOf(what % 10);
        if (form == null) {
            return NONE;
        }
        switch (what / 10) {
            case 1:
                return form.scope;
            case 2:
                return form.style;
            case 3:
                return form.join;
            case 4:
                return form.word.size;
            default:
                return NONE;
        }
    }

    private static int numberOf(Thing thing) {
        return thing == null ? NONE : thing.number;
    }

    private boolean isLogFull() {
        return logged >= MOST_CHANGES;
    }

    private void noteChange(Change change) {
        if (logged < log.length) {
            log[logged] = change;
            logged++;
        }
        numbering.stale = true;
    }

    private Mention mentionOf(int m) {
        return m >= 0 && m < mentioned && m < mentions.length ? mentions[m] : null;
    }

    private int keepMention(Mention mention) {
        if (mentioned >= MOST_MENTIONS) {
            return FULL;
        }
        mentions[mentioned] = mention;
        mentioned++;
        return mentioned - 1;
    }

    private Edition editionOf(int e) {
        return e >= 0 && e < edited && e < editions.length ? editions[e] : null;
    }

    private int firstNamed(Edition edition, int kind) {
        for (int x = 0; x < tree.size; x++) {
            Thing thing = tree.numbered(x);
            Line name = edition.nameOf(x);
            if (thing != null && name != null && thing.kind == kind && name.isSame(tape)) {
                return x;
            }
        }
        return NONE;
    }

    private boolean isStillTold(Thing thing, Line kept) {
        Thing now = thing.leadThere();
        if (now == null) {
            return false;
        }
        scratch.size = 0;
        now.tellTo(scratch);
        return scratch.isSame(kept);
    }

    private static boolean isLetter(int b) {
        return (b >= 'a' && b <= 'z') || (b >= 'A' && b <= 'Z');
    }

    /** A row of bytes with an end; what would go beyond its room is left out. */
    private static final class Line {
        final byte[] bytes;
        int size;

        Line(int most) {
            bytes = new byte[Math.max(most, 0)];
        }

        void put(int b) {
            if (size < bytes.length) {
                bytes[size] = (byte) b;
                size++;
            }
        }

        void putFour(int four) {
            put(four >>> 24);
            put(four >>> 16);
            put(four >>> 8);
            put(four);
        }

        void putLine(Line other) {
            int more = Math.min(other.size, bytes.length - size);
            System.arraycopy(other.bytes, 0, bytes, size, more);
            size += more;
        }

        void setTo(Line other) {
            size = 0;
            putLine(other);
        }

        Line copy() {
            Line other = new Line(size);
            other.putLine(this);
            return other;
        }

        int byteAt(int i) {
            return i >= 0 && i < size ? bytes[i] & 255 : NONE;
        }

        boolean isSame(Line other) {
            return size == other.size && standsIn(other, 0);
        }

        boolean standsIn(Line other, int from) {
            if (from < 0 || size > other.size - from) {
                return false;
            }
            for (int i = 0; i < size; i++) {
                if (bytes[i] != other.bytes[from + i]) {
                    return false;
                }
            }
            return true;
        }

        boolean isLettersAlone() {
            for (int i = 0; i < size; i++) {
                if (!isLetter(bytes[i])) {
                    return false;
                }
            }
            return true;
        }
    }

    /** How the things of one kind are numbered and told. */
    private static final class Form {
        final Line word = new Line(MOST_LETTERS);
        int scope;
        int style;
        int join;
    }

    /** A part of the text. The text itself is one, too, above all others and with the number NONE. */
    private static final class Thing {
        final int number;
        final int kind;
        final Form form;

        // Those that hang on one are a chain from its first one, so that moving copies nothing.
        Thing up;
        Thing first;
        Thing next;
        Thing into;
        boolean there;

        // What Numbering finds out: it holds only while the thing is there.
        Thing behind;
        int place = NONE;
        int rank;
        int count;
        Thing base;
        final int[] seen = new int[KINDS];
        final Line mark = new Line(MOST_MARK);
        final Line name = new Line(MOST_NUMBER);
        final Line before = new Line(MOST_NUMBER);
        int picked;

        Thing(int number, int kind, Form form) {
            this.number = number;
            this.kind = kind;
            this.form = form;
        }

        int kidCount() {
            int kids = 0;
            for (Thing t = first; t != null; t = t.next) {
                kids++;
            }
            return kids;
        }

        Thing kidAt(int i) {
            int n = 0;
            for (Thing t = first; t != null; t = t.next) {
                if (n == i) {
                    return t;
                }
                n++;
            }
            return null;
        }

        int index() {
            int n = 0;
            for (Thing t = up == null ? this : up.first; t != null && t != this; t = t.next) {
                n++;
            }
            return n;
        }

        void hangOn(Thing host, int i) {
            if (host == null) {
                return;
            }
            up = host;
            Thing ahead = host.kidAt(i - 1);
            if (ahead == null) {
                next = host.first;
                host.first = this;
            } else {
                next = ahead.next;
                ahead.next = this;
            }
        }

        void leave() {
            if (up == null) {
                return;
            }
            Thing ahead = up.kidAt(index() - 1);
            if (ahead == null) {
                up.first = next;
            } else {
                ahead.next = next;
            }
            next = null;
        }

        void takeKids(Thing other) {
            Thing last = kidAt(kidCount() - 1);
            if (last == null) {
                first = other.first;
            } else {
                last.next = other.first;
            }
            for (Thing t = other.first; t != null; t = t.next) {
                t.up = this;
            }
            other.first = null;
        }

        /** The kids from the given one on hang on the other thing again. */
        void giveKids(Thing kid, Thing other) {
            if (kid == null) {
                return;
            }
            Thing ahead = kidAt(kid.index() - 1);
            if (ahead == null) {
                first = null;
            } else {
                ahead.next = null;
            }
            other.first = kid;
            for (Thing t = kid; t != null; t = t.next) {
                t.up = other;
            }
        }

        boolean isWithin(Thing top) {
            for (Thing t = this; t != null; t = t.up) {
                if (t == top) {
                    return true;
                }
            }
            return false;
        }

        /** The next one in the order below top; found by the chains, since a tree may be 120 deep. */
        Thing nextWithin(Thing top) {
            if (first != null) {
                return first;
            }
            for (Thing t = this; t != null && t != top; t = t.up) {
                if (t.next != null) {
                    return t.next;
                }
            }
            return null;
        }

        int setAllThere(boolean are) {
            int all = 0;
            for (Thing t = this; t != null; t = t.nextWithin(this)) {
                t.there = are;
                all++;
            }
            return all;
        }

        /** How many of a kind the order has up to this one, itself among them. */
        int seenOf(int someKind) {
            return someKind >= 0 && someKind < seen.length ? seen[someKind] : 0;
        }

        Thing lead() {
            Thing last = this;
            for (Thing t = into; t != null; t = t.into) {
                last = t;
            }
            return last;
        }

        Thing leadThere() {
            Thing last = lead();
            return last.there ? last : null;
        }

        void tellTo(Line out) {
            if (form.word.size > 0) {
                out.putLine(form.word);
                out.put(BLANK);
            }
            out.putLine(name);
        }
    }

    /** All things that ever came, and the forms of their kinds. */
    private static final class Tree {
        final Thing text = new Thing(NONE, NONE, new Form());
        private final Thing[] things = new Thing[MOST_THINGS];
        private final Form[] forms = new Form[KINDS];
        int size;

        Tree() {
            for (int k = 0; k < forms.length; k++) {
                forms[k] = new Form();
            }
        }

        Form formOf(int kind) {
            return kind >= 0 && kind < forms.length ? forms[kind] : null;
        }

        Thing numbered(int x) {
            return x >= 0 && x < size && x < things.length ? things[x] : null;
        }

        Thing thereAs(int x) {
            Thing thing = numbered(x);
            return thing != null && thing.there ? thing : null;
        }

        Thing hostOf(int on) {
            return on == NONE ? text : thereAs(on);
        }

        Thing placedAt(int place) {
            for (Thing t = text.behind; t != null; t = t.behind) {
                if (t.place == place) {
                    return t;
                }
            }
            return null;
        }

        Thing grow(int kind) {
            Form form = formOf(kind);
            if (form == null || size >= things.length) {
                return null;
            }
            Thing thing = new Thing(size, kind, form);
            things[size] = thing;
            size++;
            return thing;
        }

        int countThere() {
            int all = 0;
            for (Thing t = text.nextWithin(text); t != null; t = t.nextWithin(text)) {
                all++;
            }
            return all;
        }
    }

    /** Puts the things in order and numbers them, anew only when something has changed. */
    private static final class Numbering {
        boolean stale;
        private final Thing text;
        private final int[] tally = new int[KINDS];

        Numbering(Thing text) {
            this.text = text;
        }

        void renew() {
            if (!stale) {
                return;
            }
            stale = false;
            lineUp();
            rankKids(text);
            // What stands above comes first in the order, so a BASE has its NUMBER when it is asked.
            for (Thing t = text.behind; t != null; t = t.behind) {
                rankKids(t);
                settle(t);
                writeMark(t);
                writeName(t);
            }
        }

        void rememberNumbers() {
            for (Thing t = text.behind; t != null; t = t.behind) {
                t.before.setTo(t.name);
            }
        }

        int countOtherNumbers() {
            int others = 0;
            for (Thing t = text.behind; t != null; t = t.behind) {
                if (!t.before.isSame(t.name)) {
                    others++;
                }
            }
            return others;
        }

        private void lineUp() {
            Arrays.fill(tally, 0);
            Thing last = text;
            int place = 0;
            for (Thing t = text.nextWithin(text); t != null; t = t.nextWithin(text)) {
                last.behind = t;
                last = t;
                t.place = place;
                place++;
                tallyUp(t.kind);
                System.arraycopy(tally, 0, t.seen, 0, KINDS);
            }
            last.behind = null;
        }

        private void rankKids(Thing host) {
            if (host.first == null) {
                return;
            }
            Arrays.fill(tally, 0);
            for (Thing t = host.first; t != null; t = t.next) {
                t.rank = tallyUp(t.kind);
            }
        }

        private int tallyUp(int kind) {
            if (kind < 0 || kind >= tally.length) {
                return 0;
            }
            tally[kind]++;
            return tally[kind];
        }

        private void settle(Thing t) {
            Thing above = nearestAbove(t);
            Thing base = above;
            if (t.form.scope < SCOPE_ABOVE) {
                base = t.up == text ? null : t.up;
            }
            t.base = base != null && base.name.size <= MOST_BASE ? base : null;
            if (t.form.scope == SCOPE_SAME) {
                t.count = t.rank;
            } else {
                Thing from = above == null ? text : above;
                t.count = t.seenOf(t.kind) - from.seenOf(t.kind);
            }
        }

        private static Thing nearestAbove(Thing t) {
            int kind = t.form.scope - SCOPE_ABOVE;
            if (kind < 0) {
                return null;
            }
            for (Thing above = t.up; above != null; above = above.up) {
                if (above.kind == kind) {
                    return above;
                }
            }
            return null;
        }

        /** What the JOIN makes of the SIGN alone; reading asks for it, too. */
        private static void writeMark(Thing t) {
            t.mark.size = 0;
            if (t.form.join == JOIN_BRACKETS) {
                t.mark.put('(');
                putSign(t.mark, t.count, t.form.style);
                t.mark.put(')');
            } else {
                putSign(t.mark, t.count, t.form.style);
            }
        }

        private static void writeName(Thing t) {
            t.name.size = 0;
            if (t.base != null && t.form.join != JOIN_SIGN) {
                t.name.putLine(t.base.name);
                if (t.form.join == JOIN_DOT) {
                    t.name.put('.');
                }
            }
            t.name.putLine(t.mark);
        }

        private static void putSign(Line out, int count, int style) {
            switch (style) {
                case STYLE_LETTERS:
                    putLetters(out, count, 'a');
                    break;
                case STYLE_CAPITAL_LETTERS:
                    putLetters(out, count, 'A');
                    break;
                case STYLE_ROMAN:
                    putRoman(out, count, 0);
                    break;
                case STYLE_CAPITAL_ROMAN:
                    putRoman(out, count, TO_CAPITAL);
                    break;
                default:
                    putFigures(out, count);
                    break;
            }
        }

        private static void putFigures(Line out, int count) {
            if (count >= 100) {
                out.put('0' + count / 100);
            }
            if (count >= 10) {
                out.put('0' + count / 10 % 10);
            }
            out.put('0' + count % 10);
        }

        /** Two letters reach to 702, and a COUNT to 120 at most. */
        private static void putLetters(Line out, int count, int a) {
            int rest = count - 1;
            if (rest >= 26) {
                out.put(a + rest / 26 - 1);
            }
            out.put(a + rest % 26);
        }

        private static void putRoman(Line out, int count, int shift) {
            putRomanDigit(out, count / 100 % 10, "cdm", shift);
            putRomanDigit(out, count / 10 % 10, "xlc", shift);
            putRomanDigit(out, count % 10, "ivx", shift);
        }

        /** The signs are those for one, five and ten. */
        private static void putRomanDigit(Line out, int digit, String signs, int shift) {
            int ones = digit % 5;
            if (ones == 4) {
                out.put(signs.charAt(0) + shift);
                out.put(signs.charAt(digit == 4 ? 1 : 2) + shift);
                return;
            }
            if (digit >= 5) {
                out.put(signs.charAt(1) + shift);
            }
            for (int i = 0; i < ones; i++) {
                out.put(signs.charAt(0) + shift);
            }
        }
    }

    /** An entry of the log: where a thing was ahead of the change, for the way back. */
    private static final class Change {
        private final int deed;
        private final Thing thing;
        private final Thing up;
        private final int index;
        private final Thing firstKid;

        Change(int deed, Thing thing, Thing up, int index, Thing firstKid) {
            this.deed = deed;
            this.thing = thing;
            this.up = up;
            this.index = index;
            this.firstKid = firstKid;
        }

        void takeBack() {
            switch (deed) {
                case ADDED:
                    thing.leave();
                    thing.there = false;
                    break;
                case MOVED:
                    thing.leave();
                    thing.hangOn(up, index);
                    break;
                case CUT:
                    // What hung below a thing that was cut has stayed on its chains.
                    thing.setAllThere(true);
                    thing.hangOn(up, index);
                    break;
                default:
                    takeApart();
                    thing.hangOn(up, index);
                    break;
            }
        }

        private void takeApart() {
            if (thing.into != null) {
                thing.into.giveKids(firstKid, thing);
            }
            thing.into = null;
            thing.there = true;
        }
    }

    /** A mention as it was made; what it says is found out when it is asked. */
    private static final class Mention {
        final int kind;
        final Thing in;
        final int kindMeant;
        final Line frozenText;
        final Thing[] meant;
        private int size;

        Mention(int kind, Thing in, int kindMeant, int most, Line frozenText) {
            this.kind = kind;
            this.in = in;
            this.kindMeant = kindMeant;
            this.frozenText = frozenText;
            meant = new Thing[Math.max(most, 0)];
        }

        void addMeant(Thing thing) {
            if (size < meant.length) {
                meant[size] = thing;
                size++;
            }
        }

        int countGone() {
            int gone = 0;
            for (Thing t : meant) {
                if (t != null && t.leadThere() == null) {
                    gone++;
                }
            }
            return gone;
        }
    }

    /** Finds what mentions mean and writes their text. */
    private static final class Teller {
        private final Thing text;
        // Things picked for this mention bear this stamp; so none must be cleared for the next one.
        private int stamp;

        Teller(Thing text) {
            this.text = text;
        }

        Thing firstMeant(Mention mention) {
            switch (mention.kind) {
                case OF_NEXT:
                    return nextOfKind(mention.in.leadThere(), mention.kindMeant);
                case OF_LATEST:
                    return latestOfKind(mention.in.leadThere(), mention.kindMeant);
                default:
                    pickMeant(mention);
                    return pickedBehind(text);
            }
        }

        int countRuns(Mention mention) {
            Thing first = firstMeant(mention);
            if (!hasText(mention, first)) {
                return 0;
            }
            if (mention.kind != OF_RANGE) {
                return 1;
            }
            int runs = 0;
            for (Thing t = first; t != null; t = pickedBehind(lastOfRun(t))) {
                runs++;
            }
            return runs;
        }

        void writeText(Mention mention, Line out) {
            out.size = 0;
            Thing first = firstMeant(mention);
            if (!hasText(mention, first)) {
                return;
            }
            if (mention.frozenText != null) {
                out.putLine(mention.frozenText);
            } else if (first != null && mention.kind == OF_RANGE) {
                writeRange(first, out);
            } else if (first != null) {
                first.tellTo(out);
            }
        }

        private static boolean hasText(Mention mention, Thing first) {
            return mention.in.leadThere() != null && (mention.frozenText != null || first != null);
        }

        private void writeRange(Thing first, Line out) {
            Line word = first.form.word;
            if (word.size > 0) {
                out.putLine(word);
                out.put(BLANK);
            }
            for (Thing t = first; t != null; t = pickedBehind(lastOfRun(t))) {
                if (t != first) {
                    out.put(',');
                    out.put(BLANK);
                }
                writeRun(t, lastOfRun(t), out);
            }
        }

        private static void writeRun(Thing first, Thing last, Line out) {
            out.putLine(first.name);
            if (last != first) {
                out.put(BLANK);
                out.put('t');
                out.put('o');
                out.put(BLANK);
                out.putLine(last.name);
            }
        }

        private void pickMeant(Mention mention) {
            stamp++;
            for (Thing t : mention.meant) {
                Thing now = t == null ? null : t.leadThere();
                if (now != null) {
                    now.picked = stamp;
                }
            }
        }

        private Thing pickedBehind(Thing thing) {
            for (Thing t = thing.behind; t != null; t = t.behind) {
                if (t.picked == stamp) {
                    return t;
                }
            }
            return null;
        }

        private Thing lastOfRun(Thing first) {
            Thing last = first;
            for (Thing t = pickedBehind(first); t != null; t = pickedBehind(t)) {
                if (t.base != last.base || t.count != last.count + 1) {
                    break;
                }
                last = t;
            }
            return last;
        }

        private static Thing nextOfKind(Thing in, int kind) {
            for (Thing t = in == null ? null : in.behind; t != null; t = t.behind) {
                if (t.kind == kind) {
                    return t;
                }
            }
            return null;
        }

        private Thing latestOfKind(Thing in, int kind) {
            Thing latest = null;
            for (Thing t = in == null ? null : text.behind; t != null && t != in; t = t.behind) {
                if (t.kind == kind) {
                    latest = t;
                }
            }
            return latest;
        }
    }

    /** How each thing that was there was told, and its number, by the numbers of the things. */
    private static final class Edition {
        private final Line[] tolds;
        private final Line[] names;

        Edition(int size) {
            tolds = new Line[Math.max(size, 0)];
            names = new Line[Math.max(size, 0)];
        }

        void keep(int x, Line told, Line name) {
            if (x >= 0 && x < tolds.length && x < names.length) {
                tolds[x] = told;
                names[x] = name;
            }
        }

        Line toldOf(int x) {
            return x >= 0 && x < tolds.length ? tolds[x] : null;
        }

        Line nameOf(int x) {
            return x >= 0 && x < names.length ? names[x] : null;
        }
    }

    /** Reads the tape for mentions and keeps what it found. */
    private static final class Reader {
        // The cells of a finding stand in the order in which finding() asks for them.
        private static final int CELLS = 5;

        private final Line tape;
        private final Tree tree;
        private final int[] cells = new int[MOST_FINDINGS * CELLS];
        private int found;

        // What the part that is looked at can mean.
        private int part;
        private int meanings;
        private int firstMeaning;

        Reader(Line tape, Tree tree) {
            this.tape = tape;
            this.tree = tree;
        }

        int readTape(Thing in) {
            found = 0;
            for (int from = 0; from < tape.size;) {
                from = Math.max(from + 1, endOfFinding(from, in));
            }
            return found;
        }

        int cell(int i, int what) {
            boolean isSuch = i >= 0 && i < found && i < MOST_FINDINGS && what >= 0 && what < CELLS;
            return isSuch ? cells[i * CELLS + what] : NO_SUCH;
        }

        /** Keeps the finding that begins here and tells its end; without one it tells from itself. */
        private int endOfFinding(int from, Thing in) {
            if (isLetter(tape.byteAt(from - 1))) {
                return from;
            }
            int kind = kindAt(from);
            Form form = tree.formOf(kind);
            if (form == null) {
                return from;
            }
            int start = from + form.word.size + 1;
            int stop = endOfRun(start);
            if (stop == start) {
                return from;
            }
            findMeanings(start, kind, in);
            int behind = part > 0 ? start + part : stop;
            keepFinding(from, behind, kind);
            return behind;
        }

        /** The kind whose word stands here with a blank behind it, or NONE. */
        private int kindAt(int from) {
            int best = NONE;
            int most = 0;
            for (int k = 0; k < KINDS; k++) {
                Form form = tree.formOf(k);
                if (form != null && form.word.size > most && form.word.standsIn(tape, from)
                        && tape.byteAt(from + form.word.size) == BLANK) {
                    best = k;
                    most = form.word.size;
                }
            }
            return best;
        }

        private int endOfRun(int start) {
            int stop = start;
            while (stop < tape.size && isOfNumber(tape.byteAt(stop))) {
                stop++;
            }
            return stop;
        }

        private static boolean isOfNumber(int b) {
            return isLetter(b) || (b >= '0' && b <= '9') || b == '.' || b == '(' || b == ')';
        }

        private void findMeanings(int start, int kind, Thing in) {
            part = 0;
            meanings = 0;
            firstMeaning = NONE;
            for (Thing t = tree.text.behind; t != null; t = t.behind) {
                int length = t.kind == kind ? partFor(t, start, in) : 0;
                if (length > part) {
                    part = length;
                    meanings = 0;
                    firstMeaning = t.number;
                }
                if (length > 0 && length == part) {
                    meanings++;
                }
            }
        }

        /** The longest part from start on that means the thing; all its bytes are such of a run. */
        private int partFor(Thing t, int start, Thing in) {
            if (t.name.standsIn(tape, start)) {
                // A NUMBER is never shorter than the SIGN that ends it.
                return t.name.size;
            }
            boolean isNear = t.base != null && in.isWithin(t.base);
            return isNear && t.mark.standsIn(tape, start) ? t.mark.size : 0;
        }

        private void keepFinding(int from, int behind, int kind) {
            int row = found * CELLS;
            if (found < MOST_FINDINGS && row + CELLS <= cells.length) {
                cells[row] = from;
                cells[row + 1] = behind;
                cells[row + 2] = kind;
                cells[row + 3] = meanings;
                cells[row + 4] = firstMeaning;
            }
            found++;
        }
    }
}
