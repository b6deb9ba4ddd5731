import java.lang.reflect.Constructor;
import java.lang.reflect.Executable;
import java.lang.reflect.Field;
import java.lang.reflect.Method;
import java.lang.reflect.Modifier;
import java.nio.file.Files;
import java.nio.file.Path;
import java.util.ArrayList;
import java.util.Arrays;
import java.util.HashSet;
import java.util.List;
import java.util.Set;
import java.util.TreeSet;
import java.util.regex.Matcher;
import java.util.regex.Pattern;

/** The document's face, and those rules of LANGUAGE.md that the text or the class can show. */
public final class LanguageTest {
    private static final Checks CHECKS = new Checks();
    private static final Set<String> FACE = Set.of("letter", "blank", "fault", "book", "about", "member", "as",
        "change", "type", "read", "lift", "rounds", "sign", "suits", "stores", "hide", "see", "forget", "drawn",
        "image", "restore", "count", "digest");
    private static final List<String> FORBIDDEN = List.of("throw", "throws", "try", "catch", "finally",
        "synchronized", "assert", "package", "protected", "volatile", "native", "->", "::", "System\\.out",
        "System\\.nanoTime", "System\\.currentTimeMillis", "Thread", "Random", "Object", "hashCode", "toString",
        "Exact\\(", "static \\{", "new [A-Za-z]+\\([^)]*\\) \\{");
    private static final int MOST_LINES = 60;
    private static final int MOST_CLASSES = 12;
    private static final int MOST_FIELDS = 20;

    public static void main(String[] args) throws Exception {
        face();
        constants();
        classesInside();
        text(Files.readString(Path.of(args[0])));
        CHECKS.end();
    }

    private static void holds(String rule, boolean good) {
        CHECKS.due(rule, good ? 1 : 0, 1);
    }

    private static void face() {
        Set<String> open = new TreeSet<>();
        for (Method method : SignBook.class.getDeclaredMethods()) {
            if (Modifier.isPublic(method.getModifiers())) {
                open.add(method.getName());
                Class<?> answers = method.getName().equals("digest") ? long.class : int.class;
                holds("1: what " + method.getName() + " answers", method.getReturnType() == answers);
            } else {
                holds("1: private " + method.getName(), Modifier.isPrivate(method.getModifiers()));
                holds("1: no public name " + method.getName(), !FACE.contains(method.getName()));
            }
        }
        holds("1: the face " + open, open.equals(new TreeSet<>(FACE)));
        holds("1: public and final", (SignBook.class.getModifiers() & (Modifier.PUBLIC | Modifier.FINAL)) == 17);
        for (Constructor<?> constructor : SignBook.class.getDeclaredConstructors()) {
            holds("1: one constructor", constructor.getParameterCount() == 0);
        }
    }

    private static void constants() throws IllegalAccessException {
        List<String> open = new ArrayList<>();
        for (Field field : SignBook.class.getDeclaredFields()) {
            if (!Modifier.isPrivate(field.getModifiers())) {
                open.add(field.getName() + " " + field.getInt(null));
            }
        }
        List<String> want = List.of("NONE -1", "UNKNOWN -101", "OUTSIDE -102", "STATE -103", "FULL -104");
        holds("1: the constants " + open, open.equals(want));
    }

    private static void classesInside() {
        List<Class<?>> all = new ArrayList<>(Arrays.asList(SignBook.class.getDeclaredClasses()));
        holds("11: classes", all.size() + 1 <= MOST_CLASSES);
        for (Class<?> inside : all) {
            holds("2: static " + inside, Modifier.isStatic(inside.getModifiers()));
            holds("1: not public " + inside, !Modifier.isPublic(inside.getModifiers()));
            for (Method method : inside.getDeclaredMethods()) {
                holds("1: no public name " + method, !FACE.contains(method.getName()));
            }
        }
        all.add(SignBook.class);
        for (Class<?> one : all) {
            long fields = Arrays.stream(one.getDeclaredFields()).filter(f -> !Modifier.isStatic(f.getModifiers())).count();
            holds("11: fields of " + one, fields <= MOST_FIELDS);
            for (Field field : one.getDeclaredFields()) {
                int flags = field.getModifiers();
                holds("5: final " + field, !Modifier.isStatic(flags) || Modifier.isFinal(flags));
            }
            List<Executable> calls = new ArrayList<>(Arrays.asList(one.getDeclaredMethods()));
            calls.addAll(Arrays.asList(one.getDeclaredConstructors()));
            for (Executable call : calls) {
                holds("11: parameters of " + call, call.getParameterCount() <= 7);
            }
        }
    }

    private static void text(String source) {
        String code = source.replaceAll("(?s)/\\*.*?\\*/", "").replaceAll("//[^\n]*", "");
        for (String word : FORBIDDEN) {
            String bounded = Character.isLetter(word.charAt(0)) && word.matches("[A-Za-z]+") ? "\\b" + word + "\\b" : word;
            holds("4, 6: no " + word, !Pattern.compile(bounded).matcher(code).find());
        }
        Set<String> imports = new HashSet<>();
        Matcher found = Pattern.compile("import ([A-Za-z.]+);").matcher(code);
        while (found.find()) {
            imports.add(found.group(1));
        }
        holds("4: imports " + imports, Set.of("java.util.Arrays").containsAll(imports));
        methodsStayShort(source);
        holds("4: signs 1 to 127", source.chars().allMatch(sign -> sign >= 1 && sign <= 127));
    }

    private static void methodsStayShort(String source) {
        String[] lines = source.split("\n");
        int begun = -1;
        for (int at = 0; at < lines.length; at++) {
            if (lines[at].matches(" {4}( {4})?[a-zA-Z].*\\) \\{")) {
                begun = at;
            }
            if (begun >= 0 && lines[at].matches(" {4}( {4})?\\}")) {
                holds("11: lines of " + lines[begun].strip(), at - begun + 1 <= MOST_LINES);
                begun = -1;
            }
        }
    }
}
