import java.lang.reflect.Method;
import java.lang.reflect.Modifier;
import java.nio.file.Files;
import java.nio.file.Path;
import java.util.ArrayList;
import java.util.List;
import java.util.Set;
import java.util.TreeSet;
import java.util.regex.Matcher;
import java.util.regex.Pattern;

/** The examples of README.md: each line answers what its comment begins with, and each method has one. */
public final class ReadmeTest {
    private static final Path README = Path.of("README.md");
    private static final Path SOURCE = Path.of("src/test/java/ReadmeTest.java");
    private static final String NEW_OBJECT = "PackedForest forest = new PackedForest();";
    private static final Pattern BLOCK = Pattern.compile("(?s)```java\n(.*?)```");
    private static final Pattern CALL = Pattern.compile("forest\\.(\\w+)\\(([^)]*)\\); +// (-?\\d+): .*");
    private static final Pattern TOLD = Pattern.compile("tell\\(forest, \"([^\"]*)\"\\); +// (-?\\d+): .*");

    private static int asked;
    private static int wrong;
    private static final Set<String> CALLED = new TreeSet<>();

    public static void main(String[] args) throws Exception {
        String source = Files.readString(SOURCE).replaceAll("(?m)^ {4}", "");
        for (Matcher block = BLOCK.matcher(Files.readString(README)); block.find();) {
            if (block.group(1).startsWith(NEW_OBJECT)) {
                example(block.group(1).split("\n"));
            } else {
                check(source.contains(block.group(1)), "this is not the function below:\n" + block.group(1));
            }
        }
        for (Method method : PackedForest.class.getDeclaredMethods()) {
            if (Modifier.isPublic(method.getModifiers())) {
                check(CALLED.contains(method.getName()), method.getName() + " has no example");
            }
        }
        System.out.println(asked + " lines of examples, " + wrong + " of them wrong");
        if (wrong != 0 || asked == 0) {
            System.exit(1);
        }
    }

    private static void check(boolean right, String what) {
        if (!right) {
            wrong++;
            System.out.println("README.md: " + what);
        }
    }

    private static void example(String[] lines) throws Exception {
        PackedForest forest = new PackedForest();
        for (int k = 1; k < lines.length; k++) {
            Matcher call = CALL.matcher(lines[k]);
            Matcher told = TOLD.matcher(lines[k]);
            asked++;
            if (call.matches()) {
                due(lines[k], answer(forest, call.group(1), call.group(2)), call.group(3));
            } else if (told.matches()) {
                due(lines[k], tell(forest, told.group(1)), told.group(2));
            } else {
                check(false, "what is this line: " + lines[k]);
            }
        }
    }

    private static void due(String line, int got, String want) {
        check(want.equals(Integer.toString(got)), line + " answered " + got);
    }

    private static int answer(PackedForest forest, String name, String numbers) throws Exception {
        CALLED.add(name);
        List<Object> values = new ArrayList<>();
        List<Class<?>> types = new ArrayList<>();
        for (String number : numbers.isEmpty() ? new String[0] : numbers.split(", ")) {
            values.add(Integer.decode(number));
            types.add(int.class);
        }
        Method method = PackedForest.class.getMethod(name, types.toArray(new Class<?>[0]));
        return (Integer) method.invoke(forest, values.toArray());
    }

    static int tell(PackedForest forest, String grammar) {
        forest.end(0);
        for (int at = 0; at < grammar.length(); at += 20) {
            int[] n = new int[5];
            for (int k = 0; k < 20; k++) {
                n[k / 4] = n[k / 4] << 8 | (at + k < grammar.length() ? grammar.charAt(at + k) : 0);
            }
            forest.feed(n[0], n[1], n[2], n[3], n[4]);
        }
        forest.end(grammar.length());
        return forest.grammar();
    }
}
