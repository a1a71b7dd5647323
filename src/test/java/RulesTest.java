import java.io.IOException;
import java.lang.reflect.Field;
import java.lang.reflect.Method;
import java.lang.reflect.Modifier;
import java.nio.file.Files;
import java.nio.file.Path;
import java.util.Arrays;
import java.util.List;
import java.util.Set;
import java.util.TreeSet;
import java.util.regex.Matcher;
import java.util.regex.Pattern;

/** The face of the class, and those rules of LANGUAGE.md that can be seen from its text. */
public final class RulesTest {
    private static final Set<String> FACE = new TreeSet<>(List.of("feed:5", "end:1", "word:1", "form:4", "add:3",
            "move:3", "cut:1", "join:2", "undo:0", "thing:2", "at:1", "told:2", "twins:0", "mention:3", "range:4",
            "frozen:3", "about:2", "text:2", "trouble:0", "edition:0", "old:2", "leads:2", "changed:1", "read:1",
            "finding:2", "count:1"));

    private static int wrong;

    public static void main(String[] args) throws IOException {
        face();
        nestedClasses();
        text(Files.readString(Path.of("src/main/java/NumberKeeper.java")));
        System.out.println("RulesTest: " + wrong + " wrong");
        if (wrong != 0) {
            System.exit(1);
        }
    }

    private static void must(boolean is, String what) {
        if (!is) {
            wrong++;
            System.out.println("RulesTest: " + what);
        }
    }

    private static void face() {
        Class<?> keeper = NumberKeeper.class;
        Set<String> seen = new TreeSet<>();
        Set<String> names = new TreeSet<>();
        for (Method m : keeper.getDeclaredMethods()) {
            if (Modifier.isPublic(m.getModifiers())) {
                seen.add(m.getName() + ":" + m.getParameterCount());
                names.add(m.getName());
                must(m.getReturnType() == int.class, m + " answers no int");
            }
        }
        must(seen.equals(FACE), "the face is " + seen);
        for (Method m : keeper.getDeclaredMethods()) {
            boolean isPrivate = Modifier.isPrivate(m.getModifiers());
            must(isPrivate || Modifier.isPublic(m.getModifiers()), m + " is neither public nor private");
            must(!isPrivate || !names.contains(m.getName()), m + " bears a public name");
        }
        Set<String> constants = new TreeSet<>();
        for (Field f : keeper.getDeclaredFields()) {
            if (Modifier.isPublic(f.getModifiers())) {
                constants.add(f.getName());
            } else {
                must(Modifier.isPrivate(f.getModifiers()), f + " is not private");
            }
        }
        must(constants.equals(Set.of("NONE", "RANGE", "FULL")), "the constants are " + constants);
        must(NumberKeeper.NONE == -1 && NumberKeeper.RANGE == -2 && NumberKeeper.FULL == -3, "values of constants");
        must(Modifier.isFinal(keeper.getModifiers()), "the class is not final");
        must(keeper.getConstructors().length == 1 && keeper.getDeclaredConstructors().length == 1, "constructors");
    }

    private static void nestedClasses() {
        Class<?>[] nested = NumberKeeper.class.getDeclaredClasses();
        must(nested.length < 12, "too many classes");
        for (Class<?> c : nested) {
            must(Modifier.isStatic(c.getModifiers()), c + " is not static");
            long fields = Arrays.stream(c.getDeclaredFields()).filter(f -> !Modifier.isStatic(f.getModifiers())).count();
            must(fields <= 20, c + " has too many fields");
            for (Method m : c.getDeclaredMethods()) {
                must(m.getParameterCount() <= 7, m + " has too many parameters");
                must(FACE.stream().noneMatch(f -> f.startsWith(m.getName() + ":")), m + " bears a public name");
            }
        }
    }

    private static void text(String source) {
        // Comments and texts may hold any word.
        String code = source.replaceAll("(?s)/\\*.*?\\*/", "").replaceAll("//[^\n]*", "")
                .replaceAll("\"[^\"]*\"", "\"\"").replaceAll("'[^']*'", "''");
        String[] ruledOut = {"\\b(throws?|try|catch|finally|synchronized|assert|package|var|yield)\\b", "->", "::",
            "\\b\\w+Exact\\b", "\\bSystem\\.(?!arraycopy)", "\\bMath\\.(?!max|min)", "\\bArrays\\.(?!fill)",
            "\\.(equals|hashCode|toString)\\(", "\\[\\]\\s*\\[\\]", "\\bimport (?!java\\.util\\.Arrays;)",
            "\\+ \"", "\" \\+", "\\bfloat\\b|\\bdouble\\b", "\\bstatic\\s*\\{"};
        for (String rule : ruledOut) {
            Matcher m = Pattern.compile(rule).matcher(code);
            must(!m.find(), "the text holds what " + rule + " rules out");
        }
        Matcher method = Pattern.compile("(?ms)^( {4}| {8})\\S[^\n]*\\) \\{\n(.*?)^\\1\\}").matcher(code);
        while (method.find()) {
            must(method.group(2).lines().count() <= 60, "a long method: " + method.group().lines().findFirst());
        }
    }
}
