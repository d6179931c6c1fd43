import java.lang.management.ManagementFactory;
import java.lang.reflect.Constructor;
import java.lang.reflect.Field;
import java.lang.reflect.Method;
import java.lang.reflect.Modifier;
import java.nio.file.Files;
import java.nio.file.Path;
import java.util.ArrayList;
import java.util.HashSet;
import java.util.List;
import java.util.Set;
import java.util.TreeSet;
import java.util.regex.Matcher;
import java.util.regex.Pattern;

/** The face of the class, the rules of LANGUAGE.md that can be seen from outside, and what calls make. */
public final class LanguageTest {
    private static final Path SOURCE = Path.of("src/main/java/PackedForest.java");
    private static final Path DOCUMENT = Path.of("../shared/DOC.md");
    /** Fields and elements of one object: far below the room of 7,300,000 for a whole run. */
    private static final int MOST_BYTES_OF_OBJECT = 200_000;
    private static final int MOST_LINES = 60;
    private static final int MOST_PARAMETERS = 7;
    private static final int MOST_CLASSES = 12;
    private static final int MOST_FIELDS = 20;

    private static int wrong;

    private static void check(boolean right, String what) {
        if (!right) {
            wrong++;
            System.out.println("wrong: " + what);
        }
    }

    public static void main(String[] args) throws Exception {
        String source = Files.readString(SOURCE);
        face();
        classes();
        words(bare(source));
        lengths(source);
        made();
        System.out.println(wrong == 0 ? "the language is kept" : wrong + " rules are not kept");
        if (wrong != 0) {
            System.exit(1);
        }
    }

    private static String told(Method method) {
        StringBuilder text = new StringBuilder(method.getReturnType().getName()).append(' ').append(method.getName());
        for (Class<?> type : method.getParameterTypes()) {
            text.append(' ').append(type.getName());
        }
        return text.toString();
    }

    private static void face() throws Exception {
        Set<String> due = new TreeSet<>();
        Matcher matcher = Pattern.compile("(?m)^    public int (\\w+)\\(([^)]*)\\);$").matcher(Files.readString(DOCUMENT));
        while (matcher.find()) {
            String types = matcher.group(2).isEmpty() ? "" : " " + matcher.group(2).replaceAll("int \\w+,? ?", "int ").trim();
            due.add("int " + matcher.group(1) + types);
        }
        check(due.size() == 39, "the document has 39 methods, not " + due.size());
        Set<String> there = new TreeSet<>();
        Set<String> names = new HashSet<>();
        for (Method method : PackedForest.class.getDeclaredMethods()) {
            if (!Modifier.isPrivate(method.getModifiers())) {
                there.add(told(method));
                names.add(method.getName());
            }
        }
        check(due.equals(there), "the face: " + there + ", due is " + due);
        for (Method method : PackedForest.class.getDeclaredMethods()) {
            check(!Modifier.isPrivate(method.getModifiers()) || !names.contains(method.getName()),
                "private " + method.getName() + " bears a public name");
        }
        for (Field field : PackedForest.class.getDeclaredFields()) {
            boolean open = !Modifier.isPrivate(field.getModifiers());
            check(!open || field.getName().equals("NONE"), "field " + field.getName() + " is not private");
        }
        Constructor<?>[] constructors = PackedForest.class.getDeclaredConstructors();
        check(constructors.length == 1 && Modifier.isPublic(constructors[0].getModifiers()), "one public constructor");
        check(Modifier.isFinal(PackedForest.class.getModifiers()), "the class is final");
    }

    private static void classes() {
        List<Class<?>> all = new ArrayList<>(List.of(PackedForest.class.getDeclaredClasses()));
        all.add(PackedForest.class);
        check(all.size() <= MOST_CLASSES, all.size() + " classes");
        for (Class<?> one : all) {
            int fields = 0;
            for (Field field : one.getDeclaredFields()) {
                boolean constant = Modifier.isStatic(field.getModifiers());
                check(!constant || Modifier.isFinal(field.getModifiers()), field + " is static and not final");
                fields += constant ? 0 : 1;
            }
            check(fields <= MOST_FIELDS, one + " has " + fields + " fields");
            check(one == PackedForest.class || Modifier.isStatic(one.getModifiers()), one + " is not static");
            for (Method method : one.getDeclaredMethods()) {
                check(method.getParameterCount() <= MOST_PARAMETERS, method + " has many parameters");
            }
        }
    }

    /** The source without comments. */
    private static String bare(String source) {
        return source.replaceAll("(?s)/\\*.*?\\*/", " ").replaceAll("//[^\n]*", " ");
    }

    private static void words(String source) {
        String[] never = {
            "\\bthrow\\b", "\\bthrows\\b", "\\btry\\b", "\\bcatch\\b", "\\bsynchronized\\b", "\\bassert\\b", "->", "::",
            "Exact\\b", "\\bRandom\\b", "\\bSystem\\.(?!arraycopy)", "\\bThread\\b", "\\bhashCode\\b", "\\bwhile\\s*\\(true",
            "for\\s*\\(\\s*;", "^package\\b", "\"", "\\bprotected\\b", "\\binterface\\b", "\\bnew \\w+\\[[^\\]]*\\]\\[",
        };
        for (String word : never) {
            Matcher matcher = Pattern.compile(word).matcher(source);
            check(!matcher.find(), "the source has " + word);
        }
        for (Matcher matcher = Pattern.compile("import ([\\w.]+);").matcher(source); matcher.find();) {
            check(matcher.group(1).equals("java.util.Arrays"), "import of " + matcher.group(1));
        }
        for (char c : source.toCharArray()) {
            check(c < 128, "the sign " + (int) c);
        }
    }

    private static void lengths(String source) {
        String[] lines = source.split("\n");
        int begin = -1;
        String end = "";
        for (int k = 0; k < lines.length; k++) {
            Matcher head = Pattern.compile("^( {4}| {8})\\S[^=;]*\\(.*\\) \\{$").matcher(lines[k]);
            if (head.matches()) {
                begin = k;
                end = head.group(1) + "}";
            } else if (begin >= 0 && lines[k].equals(end)) {
                check(k - begin <= MOST_LINES, lines[begin].trim() + " has " + (k - begin) + " lines");
                begin = -1;
            }
        }
    }

    private static long bytesMade() {
        return ((com.sun.management.ThreadMXBean) ManagementFactory.getThreadMXBean()).getCurrentThreadAllocatedBytes();
    }

    /** What one object costs, and that no call makes anything. */
    private static void made() {
        bytesMade();
        long before = bytesMade();
        PackedForest forest = new PackedForest();
        long object = bytesMade() - before;
        check(object < MOST_BYTES_OF_OBJECT, "an object takes " + object + " bytes");
        askAll(forest);
        long beforeCalls = bytesMade();
        askAll(forest);
        long calls = bytesMade() - beforeCalls;
        long asking = bytesMade();
        check(calls <= bytesMade() - asking + 64, "the calls made " + calls + " bytes");
    }

    private static void askAll(PackedForest f) {
        f.feed(0x533D5353, 0x3A323C3B, 0x533D613B, 0x533D413B, 0x413D2020);
        f.end(18);
        f.grammar();
        for (int k = 0; k < 12; k++) {
            f.read(0);
        }
        f.ban(0, 0, 0);
        f.filter(0);
        f.strike(1);
        f.undo();
        f.change(3, 1);
        f.drop();
        f.image(2);
        f.back(2);
        for (int k = -1; k < 12; k++) {
            f.rule(0, k);
            f.symbol(0, k);
            f.facts(k);
            f.goes(0, k);
            f.points(k, 0);
            f.done(k);
            f.alive(k, -1);
            f.links(k, -1);
            f.expects(k);
            f.letter(k);
            f.derives(44, 0, k);
            f.trees(44, 0, k);
            f.piece(0, 0, k);
            f.ways(0, 0, k);
            f.forest(k);
            f.tree(k, 0);
            f.spoken(k, k);
            f.count(k);
        }
        f.firsts(44);
        f.follows(44);
        f.shortest(44);
        f.states();
        f.clashes();
        f.smallest();
        f.whole();
        f.mend();
        f.seed(1);
    }
}
