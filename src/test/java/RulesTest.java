import java.io.IOException;
import java.lang.reflect.Constructor;
import java.lang.reflect.Field;
import java.lang.reflect.Method;
import java.lang.reflect.Modifier;
import java.nio.charset.StandardCharsets;
import java.nio.file.Files;
import java.nio.file.Path;
import java.util.HashSet;
import java.util.List;
import java.util.Set;
import java.util.TreeSet;
import java.util.regex.Matcher;
import java.util.regex.Pattern;

/** LANGUAGE.md's rules, as far as a look at the source and at the class's face can tell. */
public final class RulesTest {
    private static final Set<String> FACE = Set.of("card", "hand", "terms", "feed", "end", "row", "jokers", "law", "orders", "fault",
        "stopped", "force", "deal", "lay", "play", "show", "undo", "hold", "drop", "counted", "kept", "cribOf", "byStarters",
        "bestStarter", "toEnd", "seen", "forget", "canBe", "ask", "few", "compare", "rubbers", "drawn", "image", "back", "count", "status");
    private static final Set<String> LONGS = Set.of("cribOf", "few");

    public static void main(String[] args) throws IOException {
        String source = Files.readString(Path.of("src/main/java/CribbageRoom.java"), StandardCharsets.US_ASCII);
        String bare = source.replaceAll("(?s)/\\*.*?\\*/", "").replaceAll("//[^\n]*", "");
        face();
        classes();
        words(bare);
        methods(bare);
        Checks.end("RulesTest");
    }

    private static void face() {
        Set<String> publics = new TreeSet<>();
        for (Method m : CribbageRoom.class.getDeclaredMethods()) {
            boolean open = Modifier.isPublic(m.getModifiers());
            if (open) {
                publics.add(m.getName());
                Checks.isSo("type of " + m.getName(), m.getReturnType() == (LONGS.contains(m.getName()) ? long.class : int.class));
                for (Class<?> type : m.getParameterTypes()) {
                    Checks.isSo("arguments of " + m.getName(), type == int.class);
                }
                Checks.isSo(m.getName() + " is no static", !Modifier.isStatic(m.getModifiers()));
            } else {
                Checks.isSo(m.getName() + " is private", Modifier.isPrivate(m.getModifiers()));
                Checks.isSo(m.getName() + " has another name than the face's", !FACE.contains(m.getName()));
            }
        }
        Checks.isSo("the face's methods", publics.equals(new TreeSet<>(FACE)));
        for (Field f : CribbageRoom.class.getDeclaredFields()) {
            Checks.isSo(f.getName() + " is private", Modifier.isPrivate(f.getModifiers()) || f.getName().equals("NONE"));
        }
        Constructor<?>[] made = CribbageRoom.class.getDeclaredConstructors();
        Checks.isSo("one public constructor", made.length == 1 && Modifier.isPublic(made[0].getModifiers()) && made[0].getParameterCount() == 0);
        Checks.isSo("a final class", Modifier.isFinal(CribbageRoom.class.getModifiers()));
    }

    private static void classes() {
        Class<?>[] inside = CribbageRoom.class.getDeclaredClasses();
        Checks.isSo("twelve classes at most", inside.length + 1 <= 12);
        Set<Class<?>> all = new HashSet<>(List.of(inside));
        all.add(CribbageRoom.class);
        for (Class<?> c : all) {
            Checks.isSo(c + " is static", c == CribbageRoom.class || Modifier.isStatic(c.getModifiers()) && Modifier.isPrivate(c.getModifiers()));
            int fields = 0;
            for (Field f : c.getDeclaredFields()) {
                boolean constant = Modifier.isStatic(f.getModifiers());
                fields += constant ? 0 : 1;
                Checks.isSo(f + " is final, if it is static", !constant || Modifier.isFinal(f.getModifiers()));
                Checks.isSo(f + " is of a type that a constant may have", !constant || isConstantType(f.getType()));
            }
            Checks.isSo(c + " has twenty fields at most", fields <= 20);
            for (Method m : c.getDeclaredMethods()) {
                Checks.isSo(m + " takes seven at most", m.getParameterCount() <= 7);
                Checks.isSo(m + " has no name of the face", c == CribbageRoom.class || !FACE.contains(m.getName()));
            }
        }
    }

    private static boolean isConstantType(Class<?> type) {
        return Set.of(int.class, long.class, boolean.class, char.class, String.class, int[].class, long[].class, char[].class, byte[].class).contains(type);
    }

    private static void words(String bare) {
        String noTexts = bare.replaceAll("\"[^\"]*\"", "\"\"");
        for (String word : List.of("throw", "throws", "try", "catch", "synchronized", "assert", "package", "protected", "double", "float",
            "Random", "Thread", "System\\.out", "System\\.nano", "System\\.current", "Exact", "hashCode", "toString", "equals", "instanceof",
            "Object", "Exception", "\\.values\\(")) {
            Checks.isSo("no " + word, !Pattern.compile("\\b" + word + "\\b|" + word + "(?=\\()").matcher(noTexts).find());
        }
        Checks.isSo("no lambda, no method reference", !noTexts.contains("->") && !noTexts.contains("::"));
        Checks.isSo("no texts joined by +", !Pattern.compile("\"\\s*\\+|\\+\\s*\"").matcher(noTexts).find());
        Matcher imports = Pattern.compile("import ([^;]+);").matcher(noTexts);
        while (imports.find()) {
            Checks.isSo("import " + imports.group(1), imports.group(1).equals("java.util.Arrays"));
        }
        Matcher arrays = Pattern.compile("\\b(Arrays|System|Math|Long|Integer)\\.(\\w+)").matcher(noTexts);
        Set<String> library = Set.of("Arrays.copyOf", "Arrays.fill", "System.arraycopy", "Math.max", "Math.min", "Long.bitCount", "Integer.bitCount");
        while (arrays.find()) {
            Checks.isSo("the library's " + arrays.group(), library.contains(arrays.group()));
        }
        Checks.isSo("no loop without a bound", !noTexts.contains("while (true)") && !noTexts.contains("for (;;)"));
    }

    /** A method ends with the brace that stands as far in as its head. */
    private static void methods(String bare) {
        String[] lines = bare.split("\n", -1);
        Pattern head = Pattern.compile("( {4}| {8})(?! |return|if|for|while|switch|else|static final|private static final)[\\w\\[\\]<> ]+\\([^;]*\\) \\{");
        int found = 0;
        for (int i = 0; i < lines.length; i++) {
            Matcher m = head.matcher(lines[i]);
            if (!m.matches()) {
                continue;
            }
            found++;
            int end = i;
            while (end < lines.length && !lines[end].equals(m.group(1) + "}")) {
                end++;
            }
            Checks.isSo("sixty lines at most: " + lines[i].trim() + " has " + (end - i + 1), end - i + 1 <= 60);
        }
        Checks.isSo("the methods were found", found > 100);
    }
}
