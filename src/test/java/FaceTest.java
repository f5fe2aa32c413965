import java.lang.reflect.Constructor;
import java.lang.reflect.Field;
import java.lang.reflect.Method;
import java.lang.reflect.Modifier;
import java.nio.file.Files;
import java.nio.file.Path;
import java.util.ArrayList;
import java.util.Arrays;
import java.util.HashSet;
import java.util.List;
import java.util.Set;
import java.util.TreeSet;
import java.util.regex.Matcher;
import java.util.regex.Pattern;

/** The public face as the document writes it, and those rules of LANGUAGE.md that can be seen from outside. */
public final class FaceTest {
    private static final Check CHECK = new Check("FaceTest");
    private static final String[] FACE = {
        "int ship(int, int, int, int)", "int sell(int)", "int insure(int, int, int)", "int load(int, int)",
        "int set(int, int)", "int say(int)", "int wipe()", "int fault()", "int judge(int)", "int behind(int, int)",
        "int total(int)", "int sunk(int)", "int done()", "long mean(int, int, int)", "int deep(int)",
        "int share(int, int)", "long losses(int, int)", "int fleet(int, int, int, int)", "int holds(int, int)",
        "long meant(int, int, int, int, int)", "int tale(int, int, boolean)", "int forget()", "int broken(int)",
        "int ones()", "int berth(int, int, int)", "int year(int, int, int)", "int image(int)", "int restore(int)",
        "int told(int)"};

    public static void main(String[] args) throws Exception {
        face();
        constants();
        inside();
        source(Files.readString(Path.of("src/main/java/BelowWorth.java")));
        CHECK.end();
    }

    private static void face() {
        CHECK.part("the face");
        Class<?> face = BelowWorth.class;
        CHECK.due("modifiers", face.getModifiers(), Modifier.PUBLIC | Modifier.FINAL);
        Constructor<?>[] made = face.getDeclaredConstructors();
        CHECK.due("constructors", made.length, 1);
        CHECK.due("the constructor's parameters", made[0].getParameterCount(), 0);
        CHECK.holds("the constructor is public", Modifier.isPublic(made[0].getModifiers()));
        Set<String> found = new TreeSet<>();
        Set<String> open = new HashSet<>(), hidden = new HashSet<>();
        for (Method method : face.getDeclaredMethods()) {
            if (Modifier.isPrivate(method.getModifiers())) {
                hidden.add(method.getName());
                continue;
            }
            found.add(told(method));
            open.add(method.getName());
            CHECK.due("modifiers of " + method.getName(), method.getModifiers(), Modifier.PUBLIC);
        }
        CHECK.holds("the methods are those of the document: " + found, found.equals(new TreeSet<>(Arrays.asList(FACE))));
        hidden.retainAll(open);
        CHECK.holds("private methods with public names: " + hidden, hidden.isEmpty());
    }

    private static String told(Method method) {
        List<String> types = new ArrayList<>();
        for (Class<?> type : method.getParameterTypes()) {
            types.add(type.getName());
        }
        return method.getReturnType().getName() + " " + method.getName() + "(" + String.join(", ", types) + ")";
    }

    private static void constants() throws Exception {
        CHECK.part("the constants");
        String[] names = {"UNKNOWN", "OUTSIDE", "STATE", "FULL", "NO", "NONE", "GONE"};
        long[] values = {-1, -2, -3, -4, -5, -6, -1000000000000000000L};
        for (int i = 0; i < names.length; i++) {
            Field field = BelowWorth.class.getField(names[i]);
            CHECK.due("modifiers of " + names[i], field.getModifiers(), Modifier.PUBLIC | Modifier.STATIC | Modifier.FINAL);
            CHECK.due(names[i], field.getLong(null), values[i]);
            CHECK.holds("type of " + names[i], field.getType() == (i < 6 ? int.class : long.class));
        }
        int open = 0;
        for (Field field : BelowWorth.class.getDeclaredFields()) {
            open += Modifier.isPrivate(field.getModifiers()) ? 0 : 1;
        }
        CHECK.due("fields that are not private", open, names.length);
    }

    private static void inside() {
        CHECK.part("the classes inside");
        Class<?>[] inner = BelowWorth.class.getDeclaredClasses();
        CHECK.holds("some twelve classes", inner.length <= 12);
        for (Class<?> one : inner) {
            int modifiers = one.getModifiers();
            CHECK.holds(one + " is static", Modifier.isStatic(modifiers));
            CHECK.holds(one + " is no more open than the package",
                    !Modifier.isPublic(modifiers) && !Modifier.isProtected(modifiers));
            checkFields(one);
            checkMethods(one);
            checkHiddenNames(one);
        }
        checkFields(BelowWorth.class);
        checkMethods(BelowWorth.class);
    }

    /** No private method bears the name of a public one, in the classes inside neither. */
    private static void checkHiddenNames(Class<?> one) {
        Set<String> open = new HashSet<>();
        for (String method : FACE) {
            open.add(method.substring(method.indexOf(' ') + 1, method.indexOf('(')));
        }
        for (Method method : one.getDeclaredMethods()) {
            boolean hidden = Modifier.isPrivate(method.getModifiers());
            CHECK.holds(method + " has a name of its own", !hidden || !open.contains(method.getName()));
        }
    }

    private static void checkFields(Class<?> one) {
        int own = 0;
        for (Field field : one.getDeclaredFields()) {
            if (Modifier.isStatic(field.getModifiers())) {
                CHECK.holds("static " + field + " is final", Modifier.isFinal(field.getModifiers()));
            } else {
                own++;
            }
        }
        CHECK.holds("some twenty fields in " + one, own <= 20);
    }

    private static void checkMethods(Class<?> one) {
        for (Method method : one.getDeclaredMethods()) {
            CHECK.holds("seven parameters at most: " + method, method.getParameterCount() <= 7);
            CHECK.holds("not synthetic: " + method, !method.isSynthetic());
        }
    }

    private static void source(String text) {
        CHECK.part("the rules");
        CHECK.holds("signs 10 and 32 to 126 alone", text.chars().allMatch(c -> c == 10 || c >= 32 && c <= 126));
        String code = text.replaceAll("(?s)/\\*.*?\\*/", "").replaceAll("//[^\n]*", "");
        String[] forbidden = {"\\bimport\\b", "\\bpackage\\b", "\\bthrows?\\b", "\\btry\\b", "\\bcatch\\b", "\\bfinally\\b",
            "\\bsynchronized\\b", "\\bassert\\b", "->", "::", "\\bSystem\\.(?!arraycopy)", "Exact\\b", "\\bstatic\\s*\\{",
            "\\bThread\\b", "\\bRandom\\b", "\\bObject\\b", "\"\\s*\\+", "\\+\\s*\"", "\\bfloat\\b.*NaN"};
        for (String pattern : forbidden) {
            CHECK.holds("without " + pattern, !Pattern.compile(pattern).matcher(code).find());
        }
        methodsOf(code);
    }

    /** Methods begin with a line that ends in "{" behind ")", and end with "}" in the same column. */
    private static void methodsOf(String code) {
        String[] lines = code.split("\n");
        Pattern head = Pattern.compile("^( {4}| {8})(?:[a-zA-Z\\[\\]]+ )*([A-Za-z]+)\\(.*\\) \\{$");
        int methods = 0;
        for (int first = 0; first < lines.length; first++) {
            Matcher begins = head.matcher(lines[first]);
            if (!begins.matches() || lines[first].matches(" *(if|for|while|switch|else) ?\\(?.*")) {
                continue;
            }
            int last = first;
            while (last < lines.length - 1 && !lines[last].equals(begins.group(1) + "}")) {
                last++;
            }
            methods++;
            String name = begins.group(2);
            CHECK.holds(name + " is at most sixty lines", last - first < 60);
            boolean makes = Pattern.compile("\\bnew\\b|\\.clone\\(|copyOf")
                    .matcher(String.join("\n", Arrays.copyOfRange(lines, first, last + 1))).find();
            CHECK.holds(name + " makes objects only if it is a constructor", !makes || Character.isUpperCase(name.charAt(0)));
        }
        CHECK.holds("methods were found: " + methods, methods > FACE.length);
    }
}
