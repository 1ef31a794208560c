import java.io.IOException;
import java.lang.reflect.Field;
import java.lang.reflect.Method;
import java.lang.reflect.Modifier;
import java.nio.file.Files;
import java.nio.file.Path;
import java.util.ArrayList;
import java.util.HashMap;
import java.util.HashSet;
import java.util.List;
import java.util.Map;
import java.util.Set;
import java.util.regex.Matcher;
import java.util.regex.Pattern;

/** What can be seen of the rules of LANGUAGE.md in the class and in its file. */
public final class LanguageTest {
    private static final Path FILE = Path.of("src", "main", "java", "SilentLetters.java");
    private static final Set<String> IMPORTS = Set.of("java.util.Arrays", "java.util.NoSuchElementException");
    // Of what rules 4 and 10 leave, what the class has need of.
    private static final Set<String> LIBRARY = Set.of("Arrays.fill", "System.arraycopy", "Integer.bitCount",
            "Math.max", "Math.min", "PLAIN.length", "PLAIN.charAt", "THINGS.indexOf");
    private static final Set<String> UNWANTED = Set.of("package", "try", "catch", "finally", "synchronized", "assert",
            "native", "volatile", "transient", "instanceof", "while", "do", "double", "float", "var", "yield",
            "Object", "Thread", "Random", "equals", "hashCode", "toString", "getClass", "super");
    private static final int MOST_LINES = 60;
    private static final int MOST_DEEP = 8;
    private static final int MOST_CLASSES = 12;
    private static final int MOST_FIELDS = 20;
    private static final int MOST_PARAMETERS = 7;
    private static final Pattern HEAD =
            Pattern.compile("(?m)^ +(?:[a-z]+ )*[\\w\\[\\]]+ (\\w+)\\([^()]*\\)(?: throws \\w+)? \\{$");

    private static final Check check = new Check();

    public static void main(String[] args) throws IOException {
        String file = Files.readString(FILE);
        signsAreWritten(file);
        String bare = withoutTextsAndComments(file);
        importsAndLibrary(bare);
        wordsThatAreLeftOut(bare);
        thrownByTheFaceAlone(file);
        List<Class<?>> classes = new ArrayList<>(List.of(SilentLetters.class));
        classes.addAll(List.of(SilentLetters.class.getDeclaredClasses()));
        check.is("11: classes: " + classes.size(), classes.size() <= MOST_CLASSES, true);
        for (Class<?> c : classes) {
            fieldsOf(c, classes);
            methodsOf(c);
        }
        methodsAreShortAndNotDeep(bare);
        check.end();
    }

    private static void signsAreWritten(String file) {
        for (int i = 0; i < file.length(); i++) {
            char c = file.charAt(i);
            if (c != '\n' && (c < ' ' || c > '~')) {
                check.is("3: sign " + i + " of the file", c, ' ');
            }
        }
    }

    private static String withoutTextsAndComments(String file) {
        Matcher m = Pattern.compile("(?s)/\\*.*?\\*/|//[^\\n]*|\"[^\"\\n]*\"|'[^'\\n]'").matcher(file);
        return m.replaceAll("0");
    }

    private static void importsAndLibrary(String bare) {
        Matcher imports = Pattern.compile("import ([\\w.]+);").matcher(bare);
        while (imports.find()) {
            check.is("4: import " + imports.group(1), IMPORTS.contains(imports.group(1)), true);
        }
        Matcher calls = Pattern.compile("\\b([A-Z]\\w*\\.\\w+)\\(").matcher(bare);
        while (calls.find()) {
            String call = calls.group(1);
            boolean own = call.startsWith("Acts.");
            check.is("4: call of " + call, own || LIBRARY.contains(call), true);
        }
        check.is("2: no lambda", bare.contains("->"), false);
        check.is("2: no method reference", bare.contains("::"), false);
        check.is("5: no static block", Pattern.compile("static\\s*\\{").matcher(bare).find(), false);
    }

    private static void wordsThatAreLeftOut(String bare) {
        Matcher words = Pattern.compile("\\b[A-Za-z]\\w*\\b").matcher(bare);
        while (words.find()) {
            String word = words.group();
            check.is("6, 9, 13: the word " + word, UNWANTED.contains(word) || word.endsWith("Exact"), false);
        }
    }

    /** The document names one exception and four calls. */
    private static void thrownByTheFaceAlone(String file) {
        Matcher thrown = Pattern.compile("throw\\b[^;]*;").matcher(file);
        int times = 0;
        while (thrown.find()) {
            times++;
            check.is("6: " + thrown.group(),
                    thrown.group().matches("throw new NoSuchElementException\\(\"[ a-z]+\"\\);"), true);
        }
        check.is("6: throw statements", times, 4);
    }

    private static void fieldsOf(Class<?> c, List<Class<?>> own) {
        int count = 0;
        for (Field f : c.getDeclaredFields()) {
            boolean isStatic = Modifier.isStatic(f.getModifiers());
            count += isStatic ? 0 : 1;
            check.is("3, 5: type of " + f, isWanted(f.getType(), isStatic, own), true);
            check.is("5: a static field is final: " + f, isStatic && !Modifier.isFinal(f.getModifiers()), false);
        }
        check.is("11: fields of " + c + ": " + count, count <= MOST_FIELDS, true);
    }

    private static boolean isWanted(Class<?> type, boolean isStatic, List<Class<?>> own) {
        if (type.isPrimitive() || type == String.class) {
            return true;
        }
        if (isStatic) {
            return type == int[].class || type == long[].class || type == char[].class || type == byte[].class;
        }
        Class<?> of = type.isArray() ? type.getComponentType() : type;
        if (of.isArray()) {
            return of.getComponentType().isPrimitive() && of.getComponentType() != boolean.class;
        }
        return of.isPrimitive() || own.contains(of);
    }

    private static void methodsOf(Class<?> c) {
        for (Method m : c.getDeclaredMethods()) {
            check.is("11: parameters of " + m, m.getParameterCount() <= MOST_PARAMETERS, true);
        }
    }

    /** Methods of one name are taken for one: this can only make it look deeper than it is. */
    private static void methodsAreShortAndNotDeep(String bare) {
        Map<String, Set<String>> calls = new HashMap<>();
        Matcher head = HEAD.matcher(bare);
        while (head.find()) {
            String body = bodyFrom(bare, head.end());
            long lines = body.lines().count();
            check.is("11: lines of " + head.group(1) + ": " + lines, lines <= MOST_LINES, true);
            Matcher called = Pattern.compile("\\b(\\w+)\\(").matcher(body);
            Set<String> names = calls.computeIfAbsent(head.group(1), name -> new HashSet<>());
            while (called.find()) {
                names.add(called.group(1));
            }
        }
        for (Method m : SilentLetters.class.getDeclaredMethods()) {
            check.is("11: " + m.getName() + " was found", calls.containsKey(m.getName()), true);
        }
        for (String name : calls.keySet()) {
            int deep = deepFrom(name, calls, MOST_DEEP + 1);
            check.is("8, 11: calls below " + name + ": " + deep, deep <= MOST_DEEP, true);
        }
    }

    private static String bodyFrom(String bare, int start) {
        int open = 1;
        int p = start;
        while (open > 0) {
            open += bare.charAt(p) == '{' ? 1 : bare.charAt(p) == '}' ? -1 : 0;
            p++;
        }
        return bare.substring(start, p);
    }

    private static int deepFrom(String name, Map<String, Set<String>> calls, int left) {
        if (left == 0 || !calls.containsKey(name)) {
            return 0;
        }
        int deepest = 0;
        for (String called : calls.get(name)) {
            deepest = Math.max(deepest, deepFrom(called, calls, left - 1));
        }
        return deepest + 1;
    }
}
