import java.lang.reflect.Method;
import java.nio.file.Files;
import java.nio.file.Path;
import java.util.ArrayList;
import java.util.HashMap;
import java.util.List;
import java.util.Map;
import java.util.TreeSet;
import java.util.regex.Matcher;
import java.util.regex.Pattern;

/** What README.md says: each answer behind a call, each call of the face, what refused calls answer, each test. */
public final class ReadmeTest {
    private static final Check CHECK = new Check("ReadmeTest");
    private static final Pattern ASKED = Pattern.compile("x\\.(\\w+)\\(([^)]*)\\); *// (-?\\d+|[A-Z]+): .*");
    private static final Pattern SAID = Pattern.compile(
            "for \\(char sign : \"([^\"]*)\"\\.toCharArray\\(\\)\\) x\\.say\\(sign\\);");
    private static final Pattern NUMBER = Pattern.compile("`([A-Z]+)`(?: \\||,) (-\\d+)");

    public static void main(String[] args) throws Exception {
        String page = Files.readString(Path.of("README.md"));
        example(page);
        calls(page, Files.readString(Path.of("../shared/DOC.md")));
        numbers(page);
        tests(page);
        CHECK.end();
    }

    private static void example(String page) throws Exception {
        CHECK.part("the example");
        Map<String, Method> methods = new HashMap<>();
        for (Method method : BelowWorth.class.getMethods()) {
            methods.put(method.getName(), method);
        }
        BelowWorth x = null;
        int asked = 0;
        for (String line : linesOfJava(page)) {
            Matcher call = ASKED.matcher(line), text = SAID.matcher(line);
            if (line.equals("BelowWorth x = new BelowWorth();")) {
                x = new BelowWorth();
            } else if (text.matches()) {
                for (char sign : text.group(1).toCharArray()) x.say(sign);
            } else if (call.matches()) {
                long got = answer(x, methods.get(call.group(1)), call.group(2));
                CHECK.due(line, got, number(call.group(3)));
                asked++;
            } else {
                CHECK.holds("can be read: " + line, false);
            }
        }
        CHECK.holds("there is an example", asked > 0);
    }

    private static List<String> linesOfJava(String page) {
        List<String> lines = new ArrayList<>();
        boolean inside = false;
        for (String line : page.split("\n")) {
            if (line.startsWith("```")) {
                inside = line.equals("```java");
            } else if (inside && !line.isBlank()) {
                lines.add(line);
            }
        }
        return lines;
    }

    private static long answer(BelowWorth x, Method method, String told) throws Exception {
        String[] words = told.isEmpty() ? new String[0] : told.split(", ");
        Object[] arguments = new Object[words.length];
        for (int i = 0; i < words.length; i++) {
            boolean truth = method.getParameterTypes()[i] == boolean.class;
            arguments[i] = truth ? (Object) words[i].equals("true") : (Object) Integer.valueOf(words[i]);
        }
        return ((Number) method.invoke(x, arguments)).longValue();
    }

    private static long number(String told) throws Exception {
        boolean named = Character.isLetter(told.charAt(0));
        return named ? BelowWorth.class.getField(told).getLong(null) : Long.parseLong(told);
    }

    private static void calls(String page, String document) {
        CHECK.part("the calls");
        Matcher face = Pattern.compile("    public (?:int|long) (\\w+\\([^)]*\\));").matcher(document);
        int calls = 0;
        while (face.find()) {
            String call = face.group(1).replaceAll("(int|boolean) ", "");
            CHECK.holds(call + " is told", page.contains("| `" + call + "` |"));
            calls++;
        }
        CHECK.due("calls of the document", calls, 29);
    }

    private static void numbers(String page) throws Exception {
        CHECK.part("the answers of refused calls");
        TreeSet<String> told = new TreeSet<>();
        Matcher number = NUMBER.matcher(page);
        while (number.find()) {
            CHECK.due(number.group(1), number(number.group(1)), Long.parseLong(number.group(2)));
            told.add(number.group(1));
        }
        CHECK.holds("each is told: " + told, told.toString().equals("[FULL, NO, NONE, OUTSIDE, STATE, UNKNOWN]"));
    }

    private static void tests(String page) throws Exception {
        CHECK.part("the tests");
        try (var files = Files.list(Path.of("src/test/java"))) {
            for (Path file : files.toList()) {
                String name = file.getFileName().toString();
                if (name.endsWith("Test.java")) {
                    String program = name.substring(0, name.length() - ".java".length());
                    CHECK.holds(program + " is told", page.contains("`" + program + "`"));
                }
            }
        }
    }
}
