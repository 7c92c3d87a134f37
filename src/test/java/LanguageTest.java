import java.io.IOException;
import java.lang.reflect.Constructor;
import java.lang.reflect.Executable;
import java.lang.reflect.Field;
import java.lang.reflect.Method;
import java.lang.reflect.Modifier;
import java.nio.file.Files;
import java.nio.file.Path;
import java.util.ArrayList;
import java.util.Arrays;
import java.util.List;
import java.util.regex.Matcher;
import java.util.regex.Pattern;

/** The rules of ../shared/LANGUAGE.md that can be seen in the class or in its text. */
public final class LanguageTest {
    private static final Path MAIN = Path.of("src/main/java/StakeLedger.java");

    private static final List<String> IMPORTS = List.of("java.util.ArrayList", "java.util.List",
        "java.util.Arrays", "java.util.Iterator", "java.util.NoSuchElementException");

    // Rules 2, 6, 12 and 13; the class needs no try, so that none stands round a throw.
    private static final String[] RULED_OUT = {"->", "::", "\\bpackage\\b", "\\bprotected\\b", "\\bsynchronized\\b",
        "\\bassert\\b", "\\btry\\b", "\\bfinally\\b", "\\bvolatile\\b", "\\bnative\\b", "\\bThread\\b", "\\bRandom\\b",
        "\\brandom\\b", "\\bSystem\\.(?!arraycopy\\b)", "\\w+Exact\\b", "\\bhashCode\\b", "\\btoString\\b",
        "\\bstatic\\s*\\{", "\\bextends\\s+\\w*Exception\\b"};

    private static final Pattern THROW = Pattern.compile("\\bthrow\\b(.*)");
    private static final String THROWN = " new (IllegalState|IllegalArgument|IndexOutOfBounds)Exception\\((\"\")?\\);";

    private static final int MOST_CLASSES = 12;
    private static final int MOST_FIELDS = 20;
    private static final int MOST_PARAMETERS = 7;
    private static final int MOST_LINES = 60;

    public static void main(String[] args) throws IOException {
        Checks checks = new Checks();
        String text = withoutComments(Files.readString(MAIN));
        imports(checks, text);
        ruledOut(checks, text);
        thrown(checks, text);
        lengths(checks, text);
        List<Class<?>> all = new ArrayList<>(Arrays.asList(StakeLedger.class.getDeclaredClasses()));
        all.add(StakeLedger.class);
        holds(checks, "rule 11: at most some twelve classes", all.size() <= MOST_CLASSES);
        for (Class<?> one : all) {
            fields(checks, one);
            for (Method method : one.getDeclaredMethods()) {
                executable(checks, method);
            }
            for (Constructor<?> constructor : one.getDeclaredConstructors()) {
                executable(checks, constructor);
            }
        }
        checks.end();
    }

    private static void holds(Checks checks, String rule, boolean good) {
        checks.due(rule, good ? "kept" : "broken", "kept");
    }

    /** Texts are emptied, too. */
    private static String withoutComments(String text) {
        return text.replaceAll("\"[^\"\n]*\"", "\"\"").replaceAll("(?s)/\\*.*?\\*/", "").replaceAll("//[^\n]*", "");
    }

    private static void imports(Checks checks, String text) {
        Matcher each = Pattern.compile("import ([^;]*);").matcher(text);
        while (each.find()) {
            holds(checks, "rule 4: import " + each.group(1), IMPORTS.contains(each.group(1)));
        }
        int others = text.replaceAll("import [^;]*;", "").indexOf("java.");
        checks.due("rule 4: a name of the library written in full, at", others, -1);
    }

    private static void ruledOut(Checks checks, String text) {
        for (String one : RULED_OUT) {
            Matcher found = Pattern.compile(one).matcher(text);
            holds(checks, "rules 2, 6, 12 and 13: none of " + one, !found.find());
        }
    }

    /** "throw new E() or throw new E("a written text")", with the three that the document names. */
    private static void thrown(Checks checks, String text) {
        Matcher each = THROW.matcher(text);
        while (each.find()) {
            holds(checks, "rule 6: throw" + each.group(1), each.group(1).matches(THROWN));
        }
    }

    /** A method ends at the bracket that stands as far in as its first line. */
    private static void lengths(Checks checks, String text) {
        Matcher each = Pattern.compile("(?ms)^( +)\\S[^\n;]*\\) *(throws [^\n{]*)?\\{\n(.*?)^\\1\\}").matcher(text);
        int found = 0;
        while (each.find()) {
            found++;
            holds(checks, "rule 11: lines of " + each.group().lines().findFirst().orElse("").trim(),
                each.group().lines().count() <= MOST_LINES);
        }
        holds(checks, "the text has methods", found >= 13);
    }

    private static void fields(Checks checks, Class<?> one) {
        int own = 0;
        for (Field field : one.getDeclaredFields()) {
            String name = one.getName() + "." + field.getName();
            boolean isStatic = Modifier.isStatic(field.getModifiers());
            own += isStatic ? 0 : 1;
            holds(checks, "rule 1: private " + name, Modifier.isPrivate(field.getModifiers()));
            holds(checks, "rule 5: final " + name, !isStatic || Modifier.isFinal(field.getModifiers()));
            holds(checks, "rule 5: a constant number " + name, !isStatic || field.getType() == int.class);
        }
        holds(checks, "rule 11: some twenty fields of " + one.getName(), own <= MOST_FIELDS);
    }

    private static void executable(Checks checks, Executable one) {
        boolean few = one.getParameterCount() <= MOST_PARAMETERS;
        holds(checks, "rule 11: at most seven parameters of " + one, few);
    }
}
