import java.io.IOException;
import java.lang.reflect.Constructor;
import java.lang.reflect.Field;
import java.lang.reflect.Method;
import java.lang.reflect.Modifier;
import java.nio.file.Files;
import java.nio.file.Path;
import java.util.ArrayList;
import java.util.Arrays;
import java.util.List;
import java.util.Set;
import java.util.TreeSet;
import java.util.regex.Matcher;
import java.util.regex.Pattern;

/** The rules of LANGUAGE.md that can be looked up: the face, the words of the source, its measures. */
public final class LanguageTest {
    private static final Path SOURCE = Path.of("src/main/java/NumberWords.java");
    private static final Set<String> FACE = Set.of(
            "int feed(int,long)", "int read(int)", "int fault()", "int about(int,int)",
            "int name(int,int,int)", "int letters(int,int)", "int by(int,int)", "int deep(int,int)",
            "int uses(int,int,int,int)", "int first(int,int)", "int song(int,int,int)",
            "int order(int,int)", "int place(int,int)", "int twins(int,int)", "int write(int)",
            "int clear()", "int find(int,boolean,int)", "int nearest(int,int)", "int led(int,int,int)",
            "int chain(int,int,int)", "int honest(int,int)", "int far(int,int,int)",
            "int mixed(int,int,int,int)", "int square(int,int,int,int)", "int squares(int,int)");
    private static final Set<String> CONSTANTS = Set.of("NONE", "UNKNOWN", "OUTSIDE", "NOT", "FULL");
    private static final String[] NOT_ALLOWED = {
        "\\bthrow\\b", "\\btry\\b", "\\bcatch\\b", "\\bsynchronized\\b", "\\bassert\\b", "->", "::",
        "\\bpackage\\b", "\\bvar\\b", "\\bObject\\b", "\\bRandom\\b", "\\bThread\\b", "Exact\\(",
        "\\bhashCode\\b", "\\btoString\\b", "static \\{", "\\bimport (?!java\\.util\\.Arrays;)",
        "\\bSystem\\.(?!arraycopy\\()", "\\bMath\\.(?!max\\(|min\\(|abs\\()", "[^\\x00-\\x7f]"
    };
    private static final Pattern CONSTRUCTOR = Pattern.compile("^(public |private )?[A-Z]\\w*\\(");
    private static final Pattern MAKER = Pattern.compile(
            "\\bnew\\b|=\\s*\\{|\\b(copyOf|copyOfRange|clone|substring|toCharArray|valueOf|values|of)\\(");

    private static final Checks CHECKS = new Checks();

    public static void main(String[] args) throws IOException {
        face();
        Class<?>[] inner = NumberWords.class.getDeclaredClasses();
        CHECKS.due("at most twelve classes", inner.length <= 12 ? 1 : 0, 1);
        for (Class<?> c : inner) {
            innerClass(c);
        }
        String source = Files.readString(SOURCE);
        words(source);
        methods(source);
        CHECKS.end();
    }

    private static void face() {
        Class<?> c = NumberWords.class;
        CHECKS.due("public and final", c.getModifiers(), Modifier.PUBLIC | Modifier.FINAL);
        Set<String> seen = new TreeSet<>();
        Set<String> names = new TreeSet<>();
        List<Method> hidden = new ArrayList<>();
        for (Method method : c.getDeclaredMethods()) {
            if (Modifier.isPrivate(method.getModifiers())) {
                hidden.add(method);
            } else {
                seen.add(signature(method));
                names.add(method.getName());
                CHECKS.due("public " + method, method.getModifiers(), Modifier.PUBLIC);
            }
        }
        CHECKS.due("methods of the face", seen.toString(), new TreeSet<>(FACE).toString());
        for (Method method : hidden) {
            CHECKS.due("a name of its own: " + method, names.contains(method.getName()) ? 1 : 0, 0);
        }
        for (Field field : c.getDeclaredFields()) {
            int due = CONSTANTS.contains(field.getName()) ? Modifier.PUBLIC : Modifier.PRIVATE;
            CHECKS.due("visible: " + field, field.getModifiers() & 7, due);
            staticField(field);
        }
        Constructor<?>[] made = c.getDeclaredConstructors();
        CHECKS.due("one constructor", made.length, 1);
        CHECKS.due("public, without arguments", made[0].getModifiers() + made[0].getParameterCount(), Modifier.PUBLIC);
    }

    private static String signature(Method method) {
        StringBuilder text = new StringBuilder(method.getReturnType() + " " + method.getName() + "(");
        for (Class<?> type : method.getParameterTypes()) {
            text.append(text.charAt(text.length() - 1) == '(' ? "" : ",").append(type);
        }
        return text.append(')').toString();
    }

    private static void innerClass(Class<?> c) {
        CHECKS.due("static, not public: " + c, c.getModifiers() & 15, Modifier.STATIC | c.getModifiers() & Modifier.PRIVATE);
        Set<String> face = new TreeSet<>();
        for (Method method : NumberWords.class.getMethods()) {
            face.add(method.getName());
        }
        for (Method method : c.getDeclaredMethods()) {
            CHECKS.due("at most seven parameters: " + method, method.getParameterCount() <= 7 ? 1 : 0, 1);
            CHECKS.due("no name of the face: " + method, face.contains(method.getName()) ? 1 : 0, 0);
        }
        int fields = 0;
        for (Field field : c.getDeclaredFields()) {
            staticField(field);
            fields += Modifier.isStatic(field.getModifiers()) ? 0 : 1;
        }
        CHECKS.due("at most twenty fields: " + c, fields <= 20 ? 1 : 0, 1);
    }

    private static void staticField(Field field) {
        if (Modifier.isStatic(field.getModifiers())) {
            CHECKS.due("final: " + field, Modifier.isFinal(field.getModifiers()) ? 1 : 0, 1);
            boolean plain = Arrays.<Class<?>>asList(int.class, long.class, boolean.class, char.class, String.class,
                    int[].class, long[].class, char[].class, byte[].class).contains(field.getType());
            CHECKS.due("a constant: " + field, plain ? 1 : 0, 1);
        }
    }

    private static void words(String source) {
        String code = source.replaceAll("(?s)/\\*.*?\\*/", "").replaceAll("//[^\n]*", "");
        for (String word : NOT_ALLOWED) {
            Matcher matcher = Pattern.compile(word).matcher(code);
            CHECKS.due("not allowed: " + word, matcher.find() ? matcher.group() : "", "");
        }
    }

    /** Methods are told by their indent: a head at four or eight blanks, its end at the same. */
    private static void methods(String source) {
        String[] lines = source.split("\n");
        for (int i = 0; i < lines.length; i++) {
            Matcher head = Pattern.compile("^( {4}| {8})\\S.*\\) \\{$").matcher(lines[i]);
            if (head.matches()) {
                int end = i;
                while (!lines[end].equals(head.group(1) + "}")) {
                    end++;
                }
                CHECKS.due("at most sixty lines: " + lines[i].trim(), end - i <= 60 ? 1 : 0, 1);
                makesNothing(Arrays.copyOfRange(lines, i, end));
                // A loop in a method of the outer class stands where a head of an inner one would.
                i = end;
            }
        }
    }

    /** Objects are made in constructors and field initialisers alone, so that no call makes one. */
    private static void makesNothing(String[] method) {
        String head = method[0].trim();
        if (CONSTRUCTOR.matcher(head).find()) {
            return;
        }
        for (String line : method) {
            Matcher maker = MAKER.matcher(line.replaceAll("//.*", ""));
            CHECKS.due("made in " + head, maker.find() ? maker.group() : "", "");
        }
    }
}
