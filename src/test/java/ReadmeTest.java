import java.io.IOException;
import java.lang.reflect.Field;
import java.lang.reflect.Method;
import java.lang.reflect.Modifier;
import java.nio.file.Files;
import java.nio.file.Path;
import java.util.Map;
import java.util.TreeMap;
import java.util.regex.MatchResult;
import java.util.regex.Pattern;

/** README.md tells of the class as it is: the answers of its example, all methods, all constants with their values. */
public final class ReadmeTest {
    private static final Pattern EXAMPLE = Pattern.compile("proverbs\\.(\\w+)\\((.*)\\); +// (-?\\d+)\\b.*");
    private static final Pattern METHOD = Pattern.compile("`(\\w+)\\(([\\w, ]*)\\)`(?=[^|]*\\|)");
    private static final Pattern CONSTANT = Pattern.compile("`([A-Z_]+)` (?:\\| |\\()(-?\\d+)\\b");

    private static int wrong;

    private static void due(String what, Object got, Object want) {
        if (!want.equals(got)) {
            wrong++;
            System.out.println("README.md: " + what + " is " + got + ", due is " + want);
        }
    }

    private static Map<String, Method> methods() {
        Map<String, Method> found = new TreeMap<>();
        for (Method method : ProverbCollection.class.getDeclaredMethods()) {
            if (Modifier.isPublic(method.getModifiers())) {
                found.put(method.getName(), method);
            }
        }
        return found;
    }

    private static String[] parts(String list) {
        return list.isEmpty() ? new String[0] : list.split(", ");
    }

    private static void exampleAnswers(String text) throws ReflectiveOperationException {
        ProverbCollection proverbs = new ProverbCollection();
        int calls = 0;
        for (MatchResult line : EXAMPLE.matcher(text).results().toList()) {
            String[] list = parts(line.group(2));
            Object[] arguments = new Object[list.length];
            for (int index = 0; index < list.length; index++) {
                arguments[index] = Integer.valueOf(list[index]);
            }
            due(line.group(), methods().get(line.group(1)).invoke(proverbs, arguments), Integer.valueOf(line.group(3)));
            calls++;
        }
        due("the number of calls with an answer", calls, text.split("\nproverbs\\.", -1).length - 1);
        due("that there are calls", calls > 0, true);
    }

    private static void allMethods(String text) {
        Map<String, Integer> told = new TreeMap<>();
        for (MatchResult call : METHOD.matcher(text).results().toList()) {
            told.put(call.group(1), parts(call.group(2)).length);
        }
        Map<String, Integer> real = new TreeMap<>();
        methods().forEach((name, method) -> real.put(name, method.getParameterCount()));
        due("methods with the numbers of their arguments", told, real);
    }

    private static void allConstants(String text) throws IllegalAccessException {
        Map<String, Integer> told = new TreeMap<>();
        for (MatchResult constant : CONSTANT.matcher(text).results().toList()) {
            told.put(constant.group(1), Integer.valueOf(constant.group(2)));
        }
        Map<String, Integer> real = new TreeMap<>();
        for (Field field : ProverbCollection.class.getFields()) {
            real.put(field.getName(), field.getInt(null));
        }
        due("constants with their values", told, real);
    }

    public static void main(String[] args) throws IOException, ReflectiveOperationException {
        String text = Files.readString(Path.of("README.md"));
        exampleAnswers(text);
        allMethods(text);
        allConstants(text);
        System.out.println(wrong == 0 ? "README.md tells of the class as it is" : wrong + " faults in README.md");
        if (wrong != 0) {
            System.exit(1);
        }
    }
}
