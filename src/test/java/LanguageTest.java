import java.io.IOException;
import java.lang.reflect.Field;
import java.lang.reflect.Method;
import java.lang.reflect.Modifier;
import java.nio.file.Files;
import java.nio.file.Path;
import java.util.ArrayList;
import java.util.List;
import java.util.Set;
import java.util.TreeSet;
import java.util.regex.Matcher;
import java.util.regex.Pattern;

/** What of LANGUAGE.md can be seen by the source's words and the class's shape. Run from the project's folder. */
public final class LanguageTest {
    private static final Path SOURCE = Path.of("src/main/java/MustardFast.java");

    public static void main(String[] args) throws IOException {
        String source = Files.readString(SOURCE);
        String code = source.replaceAll("(?s)/\\*.*?\\*/", "").replaceAll("//[^\n]*", "");
        words(code);
        library(code);
        signs(source);
        methodsAreShort(code);
        objectsAreMadeOnceAlone(code);
        shapes();
        Due.end();
    }

    private static void words(String code) {
        String[] ruledOut = {"throw", "throws", "try", "catch", "finally", "synchronized", "assert", "package",
            "record", "yield", "volatile", "native", "var", "Object", "equals", "hashCode", "toString", "protected",
            "Exception", "Error", "Thread", "Random", "Scanner", "instanceof"};
        for (String word : ruledOut) {
            Due.holds(!Pattern.compile("\\b" + word + "\\b").matcher(code).find(), "rule 6: no " + word);
        }
        Due.holds(!code.contains("->") && !code.contains("::"), "rule 2: no lambda, no method reference");
        Due.holds(!code.contains("\"") && !code.contains("'"), "no texts are wanted at all");
        Due.holds(!Pattern.compile("while \\(true\\)|for \\(;;\\)").matcher(code).find(), "rule 9: loops that end");
        Due.holds(!Pattern.compile("[A-Za-z_]\\w*Exact\\b").matcher(code).find(), "rule 4: nothing ...Exact");
    }

    private static void library(String code) {
        Set<String> used = new TreeSet<>();
        Matcher m = Pattern.compile("\\b(?:import [\\w.]+|(?:Integer|Long|Math|Arrays|System|List)\\.\\w+)").matcher(code);
        while (m.find()) {
            used.add(m.group());
        }
        Set<String> may = Set.of("import java.util.Arrays", "Integer.bitCount", "Long.MIN_VALUE", "Arrays.fill",
                "System.arraycopy");
        used.removeAll(may);
        Due.holds(used.isEmpty(), "rule 4: library beyond what is wanted: " + used);
    }

    private static void signs(String source) {
        for (int i = 0; i < source.length(); i++) {
            if (source.charAt(i) > 127) {
                Due.holds(false, "rule 4: a sign beyond 127 at " + i);
            }
        }
    }

    private static void methodsAreShort(String code) {
        int begun = 0;
        int line = 0;
        for (String text : code.split("\n", -1)) {
            line++;
            boolean isHead = text.matches(" {4}( {4})?[^ ].*\\) \\{") && !text.contains(" class ");
            boolean isEnd = text.matches(" {4}( {4})?}");
            begun = isHead && begun == 0 ? line : begun;
            if (isEnd && begun != 0) {
                Due.holds(line - begun < 60, "rule 11: the method at line " + begun + " is long");
                begun = 0;
            }
        }
    }

    /** What a run makes stays small, since only fields and the constructor make anything. */
    private static void objectsAreMadeOnceAlone(String code) {
        boolean isInConstructor = false;
        for (String text : code.split("\n", -1)) {
            isInConstructor = text.startsWith("    public MustardFast()") || isInConstructor && !text.equals("    }");
            boolean isField = text.matches(" {8}private final [\\w\\[\\]]+ \\w+ = new .*;");
            boolean isMaking = Pattern.compile("\\bnew\\b|\\.clone\\(|Arrays\\.copyOf").matcher(text).find();
            Due.holds(!isMaking || isField || isInConstructor, "rule 12: a call that makes something: " + text);
        }
    }

    private static void shapes() {
        List<Class<?>> all = new ArrayList<>(List.of(MustardFast.class.getDeclaredClasses()));
        all.add(MustardFast.class);
        Due.holds(all.size() <= 12, "rule 11: classes");
        for (Class<?> c : all) {
            int own = 0;
            for (Field f : c.getDeclaredFields()) {
                boolean isStatic = Modifier.isStatic(f.getModifiers());
                own += isStatic ? 0 : 1;
                Due.holds(!isStatic || Modifier.isFinal(f.getModifiers()), "rule 5: " + f + " is final");
            }
            Due.holds(own <= 20, "rule 11: fields of " + c.getName());
            for (Method m : c.getDeclaredMethods()) {
                Due.holds(m.getParameterCount() <= 7, "rule 11: parameters of " + m);
            }
        }
    }
}
