import java.io.IOException;
import java.lang.reflect.Constructor;
import java.lang.reflect.Field;
import java.lang.reflect.Method;
import java.lang.reflect.Modifier;
import java.nio.file.Files;
import java.nio.file.Path;
import java.util.List;
import java.util.Set;
import java.util.TreeSet;
import java.util.regex.Matcher;
import java.util.regex.Pattern;

/** The document's face, and the rules of LANGUAGE.md that can be seen in the text and in the classes. */
public final class LanguageTest {
    private static final Path SOURCE = Path.of("src/main/java/TwoEyes.java");
    private static final Path DOCUMENT = Path.of("../shared/DOC.md");
    private static final Set<String> FACE = Set.of(
        "int NUMBER", "int MISSING", "int SIZE", "int NONE", "int LOST",
        "int size(int,int)", "int shade(int,int,int,int)", "int lose(int,int,int)",
        "int row(int,int,boolean)", "int copy(int,int,int,int,int,int,int)", "int told(int,int,int)",
        "int rule(int,int)", "int many(int)", "int cost(int,int,int)", "int path(int)",
        "int matched(int,int)", "int hidden(int,int)", "int run(int,int,int,int)", "int sum(int,int,int)",
        "int depth(int,int,int)", "int agreed(int,int)", "int segment(int,int)", "int extent(int,int)",
        "int plane(int,int,int)", "int view(int,int,int)", "int holes(int)",
        "int draw(int,int,int,int,int,int)", "int truth(int,int)", "int score(int)",
        "int outline(int,int,int)", "boolean cube(int,int,int)", "int empty(int)", "int keep()", "int back()");
    private static final List<String> FORBIDDEN = List.of(
        "\\bthrow\\b", "\\bthrows\\b", "\\btry\\b", "\\bcatch\\b", "\\bsynchronized\\b", "\\bassert\\b",
        "->", "::", "\\bpackage\\b", "\\bThread\\b", "\\bException\\b", "Exact\\b", "\\bstatic\\s*\\{",
        "\\bnanoTime\\b", "\\bcurrentTimeMillis\\b", "\\brandom\\b", "\\bSystem\\.(?!arraycopy\\b)");
    private static final int MOST_CLASSES = 12;
    private static final int MOST_FIELDS = 20;
    private static final int MOST_PARAMETERS = 7;
    private static final int MOST_LINES = 60;

    private static int wrong = 0;

    public static void main(String[] args) throws IOException, IllegalAccessException {
        face();
        if (Files.exists(DOCUMENT)) {
            String document = Files.readString(DOCUMENT);
            faceOfDocument(document);
            order(document, Files.readString(SOURCE));
        } else {
            System.out.println("the document is not at " + DOCUMENT + ": its face is not compared");
        }
        classes();
        String text = withoutComments(Files.readString(SOURCE));
        words(text);
        methodLengths(text);
        objects(text);
        System.out.println(wrong == 0 ? "the language is kept" : wrong + " rules are broken");
        if (wrong != 0) {
            System.exit(1);
        }
    }

    private static void face() {
        Class<?> type = TwoEyes.class;
        check(Modifier.isPublic(type.getModifiers()) && Modifier.isFinal(type.getModifiers()), "rule 1: public final");
        Set<String> seen = new TreeSet<>();
        for (Field field : type.getDeclaredFields()) {
            if (!Modifier.isPrivate(field.getModifiers())) {
                seen.add(field.getType() + " " + field.getName());
            }
        }
        for (Method method : type.getDeclaredMethods()) {
            if (!Modifier.isPrivate(method.getModifiers())) {
                check(Modifier.isPublic(method.getModifiers()), "rule 1: " + method + " is not public");
                seen.add(method.getReturnType() + " " + method.getName() + parameters(method));
            }
        }
        check(seen.equals(FACE), "rule 1: the face is " + seen);
        Constructor<?>[] constructors = type.getDeclaredConstructors();
        check(constructors.length == 1 && constructors[0].getParameterCount() == 0
            && Modifier.isPublic(constructors[0].getModifiers()), "rule 1: the constructor");
    }

    /** The face above is the document's, and the constants have its values. */
    private static void faceOfDocument(String document) throws IllegalAccessException {
        Set<String> told = new TreeSet<>();
        Matcher constants = Pattern.compile("public static final (\\w+ (\\w+)) = (-?\\d+);").matcher(document);
        while (constants.find()) {
            told.add(constants.group(1));
            check(valueOf(constants.group(2)).equals(constants.group(3)), "the value of " + constants.group(2));
        }
        Matcher calls = Pattern.compile("public (\\w+ \\w+)\\(([^)]*)\\);").matcher(document);
        while (calls.find()) {
            told.add(calls.group(1) + "(" + calls.group(2).replaceAll(" \\w+(,|$) ?", "$1") + ")");
        }
        check(told.equals(FACE), "the document's face is " + told);
    }

    private static String valueOf(String constant) throws IllegalAccessException {
        for (Field field : TwoEyes.class.getFields()) {
            if (field.getName().equals(constant)) {
                return String.valueOf(field.get(null));
            }
        }
        return "none";
    }

    /** What the interface says ahead of some calls, and these calls, come in the document's order. */
    private static void order(String document, String source) {
        Matcher groups = Pattern.compile("(?m)^Ahead of the calls (.*) the interface says: (---- .*)\\.$").matcher(document);
        int at = 0;
        int found = 0;
        while (groups.find()) {
            found++;
            at = behind(source, "// " + groups.group(2) + "\n", at);
            for (String call : groups.group(1).replace("`", "").split(", ")) {
                at = behind(source, " " + call + "(", at);
            }
        }
        check(found > 0, "the document's groups of calls are not found");
    }

    private static int behind(String source, String text, int from) {
        int at = source.indexOf(text, from);
        check(at >= 0, "not in the document's order: " + text.trim());
        return Math.max(from, at);
    }

    private static String parameters(Method method) {
        StringBuilder text = new StringBuilder("(");
        for (Class<?> type : method.getParameterTypes()) {
            text.append(text.length() == 1 ? "" : ",").append(type);
        }
        return text.append(')').toString();
    }

    private static void classes() {
        Class<?>[] inside = TwoEyes.class.getDeclaredClasses();
        check(inside.length + 1 <= MOST_CLASSES, "rule 11: too many classes");
        members(TwoEyes.class);
        for (Class<?> type : inside) {
            int how = type.getModifiers();
            check(Modifier.isStatic(how) && !Modifier.isPublic(how) && !Modifier.isProtected(how),
                "rules 1 and 2: " + type);
            members(type);
        }
    }

    private static void members(Class<?> type) {
        int fields = 0;
        for (Field field : type.getDeclaredFields()) {
            boolean fixed = Modifier.isStatic(field.getModifiers());
            fields += fixed ? 0 : 1;
            check(!fixed || Modifier.isFinal(field.getModifiers()), "rule 5: " + field);
        }
        check(fields <= MOST_FIELDS, "rule 11: too many fields in " + type);
        for (Method method : type.getDeclaredMethods()) {
            check(method.getParameterCount() <= MOST_PARAMETERS, "rule 11: parameters of " + method);
            check(Modifier.isPublic(method.getModifiers()) || !isOfFace(method.getName()),
                "rule 1: the name of " + method);
        }
    }

    private static boolean isOfFace(String name) {
        for (String member : FACE) {
            if (member.contains(" " + name + "(")) {
                return true;
            }
        }
        return false;
    }

    private static void words(String text) {
        for (String word : FORBIDDEN) {
            Matcher found = Pattern.compile(word).matcher(text);
            check(!found.find(), "rules 4, 6, 13: the text has " + word);
        }
        Matcher imports = Pattern.compile("(?m)^import (.*);").matcher(text);
        while (imports.find()) {
            check(imports.group(1).matches("java\\.util\\.(Arrays|ArrayList|List|Iterator)"),
                "rule 4: import of " + imports.group(1));
        }
    }

    /** Methods stand 4 or 8 columns from the edge, with their last brace under their first word. */
    private static void methodLengths(String text) {
        Matcher methods = Pattern.compile("(?ms)^( {4}| {8})[a-zA-Z][^;{}=]*\\) \\{$.*?^\\1\\}$").matcher(text);
        int count = 0;
        while (methods.find()) {
            count++;
            long lines = methods.group().lines().count();
            check(lines <= MOST_LINES, "rule 11: " + lines + " lines: " + methods.group().lines().findFirst().orElse(""));
        }
        check(count > FACE.size() - 10, "methods are not found in the text any more");
    }

    /** As README.md says, only the fields make objects, so that no run of calls can make too many. */
    private static void objects(String text) {
        text.lines().filter(line -> line.matches(".*\\b(new|clone|copyOf|copyOfRange)\\b.*")).forEach(line ->
            check(line.matches(" +(private )?final \\S+ \\w+ = new .*;"), "rule 12: an object is made by " + line.trim()));
    }

    /** The lines stay, so that methods keep their length. */
    private static String withoutComments(String text) {
        return Pattern.compile("/\\*.*?\\*/", Pattern.DOTALL).matcher(text)
            .replaceAll(found -> "\n".repeat((int) found.group().chars().filter(c -> c == '\n').count()))
            .replaceAll("//[^\n]*", "");
    }

    private static void check(boolean holds, String rule) {
        if (!holds) {
            wrong++;
            System.out.println(rule);
        }
    }
}
