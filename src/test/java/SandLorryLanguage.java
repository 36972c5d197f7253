import java.io.IOException;
import java.lang.reflect.Constructor;
import java.lang.reflect.Field;
import java.lang.reflect.Method;
import java.lang.reflect.Modifier;
import java.nio.file.Files;
import java.nio.file.Path;
import java.util.Arrays;
import java.util.List;
import java.util.Set;
import java.util.TreeSet;
import java.util.regex.Matcher;
import java.util.regex.Pattern;
import java.util.stream.Collectors;

/** The face of the class, and those rules of LANGUAGE.md that can be seen from outside or in its text. */
public final class SandLorryLanguage {
    private static final String FACE = "sand 2, yardOf 2, set 2, now 1, soft 2, wind 1, effort 2, effortOf 2, go 1, gives 2,"
        + " lasts 1, out 1, when 1, feed 2, wipe 0, text 0, planOf 1, clear 0, follow 0, plans 1, best 2, airFor 1,"
        + " sacksFor 1, waterFor 0, boardsFor 1, way 0, odds 1, seed 1, hold 2, as 2, sheet 3, write 3, copy 5, load 2,"
        + " judge 1, image 0, undo 0, tear 0, count 1, status 1";
    private static int wrong = 0;

    private static void must(int rule, String what, boolean holds) {
        if (!holds) {
            wrong++;
            System.out.println("rule " + rule + ": " + what);
        }
    }

    public static void main(String[] args) throws IOException {
        face();
        for (Class<?> inside : SandLorry.class.getDeclaredClasses()) {
            nested(inside);
        }
        staticFields(SandLorry.class);
        String source = Files.readString(Path.of("src/main/java/SandLorry.java"));
        text(source);
        methodLengths(source);
        System.out.println(wrong + " rules broken");
        if (wrong != 0) {
            System.exit(1);
        }
    }

    private static void face() {
        Class<SandLorry> c = SandLorry.class;
        must(1, "public and final", Modifier.isPublic(c.getModifiers()) && Modifier.isFinal(c.getModifiers()));
        Set<String> found = new TreeSet<>();
        Set<String> hidden = new TreeSet<>();
        for (Method m : c.getDeclaredMethods()) {
            if (Modifier.isPublic(m.getModifiers())) {
                found.add(m.getName() + " " + m.getParameterCount());
                boolean ints = Arrays.stream(m.getParameterTypes()).allMatch(t -> t == int.class);
                must(1, m.getName() + " is of ints", ints && m.getReturnType() == int.class);
                must(1, m.getName() + " is no static one", !Modifier.isStatic(m.getModifiers()));
            } else {
                must(1, m.getName() + " is private", Modifier.isPrivate(m.getModifiers()));
                hidden.add(m.getName());
            }
        }
        must(1, "the face is " + found, found.equals(new TreeSet<>(List.of(FACE.split(", ")))));
        Set<String> names = found.stream().map(f -> f.split(" ")[0]).collect(Collectors.toSet());
        for (Class<?> inside : c.getDeclaredClasses()) {
            Arrays.stream(inside.getDeclaredMethods()).forEach(m -> hidden.add(m.getName()));
        }
        hidden.retainAll(names);
        must(1, "names of public methods borne by others: " + hidden, hidden.isEmpty());
        Constructor<?>[] makers = c.getDeclaredConstructors();
        must(1, "one constructor", makers.length == 1 && makers[0].getParameterCount() == 0
            && Modifier.isPublic(makers[0].getModifiers()));
        for (Field f : c.getDeclaredFields()) {
            must(1, f.getName() + " is private", Modifier.isPrivate(f.getModifiers()));
        }
        must(11, "some twelve classes", c.getDeclaredClasses().length < 12);
    }

    private static void nested(Class<?> c) {
        int flags = c.getModifiers();
        must(1, c.getName() + " is private or package-visible", !Modifier.isPublic(flags) && !Modifier.isProtected(flags));
        must(2, c.getName() + " is static", Modifier.isStatic(flags));
        staticFields(c);
        for (Method m : c.getDeclaredMethods()) {
            must(11, m.getName() + " takes at most seven", m.getParameterCount() <= 7);
        }
    }

    private static void staticFields(Class<?> c) {
        int fields = 0;
        for (Field f : c.getDeclaredFields()) {
            if (Modifier.isStatic(f.getModifiers())) {
                boolean plain = List.of("int", "long", "boolean", "char", "String", "int[]", "long[]", "char[]", "byte[]")
                    .contains(f.getType().getSimpleName());
                must(5, f.getName() + " is a constant", Modifier.isFinal(f.getModifiers()) && plain);
            } else {
                fields++;
            }
        }
        must(11, c.getName() + " has some twenty fields", fields <= 20);
    }

    private static void text(String source) {
        must(3, "signs 1 to 127", source.chars().allMatch(sign -> sign > 0 && sign < 128));
        String code = source.replaceAll("(?s)/\\*.*?\\*/", "").replaceAll("//[^\n]*", "").replaceAll("\"[^\"]*\"", "\"\"");
        Matcher imports = Pattern.compile("import ([^;]*);").matcher(code);
        while (imports.find()) {
            must(4, "import of " + imports.group(1),
                List.of("java.util.Arrays", "java.util.ArrayList", "java.util.List").contains(imports.group(1)));
        }
        for (String word : List.of("throw", "throws", "try", "catch", "synchronized", "assert", "package", "double", "float")) {
            must(6, "the word " + word, !Pattern.compile("\\b" + word + "\\b").matcher(code).find());
        }
        for (String sign : List.of("->", "::", "static {", "@", "Exact(")) {
            must(2, "the sign " + sign, !code.contains(sign));
        }
        Set<String> library = new TreeSet<>();
        Matcher calls = Pattern.compile("\\b(Math|Arrays|System|Integer|Long|String)\\.(\\w+)").matcher(code);
        while (calls.find()) {
            library.add(calls.group(1) + "." + calls.group(2));
        }
        library.removeAll(Set.of("Math.min", "Math.max", "Arrays.fill", "System.arraycopy"));
        must(4, "library calls " + library, library.isEmpty());
        Matcher made = Pattern.compile("(?m)^( +)(.*\\bnew\\b.*)$").matcher(code);
        while (made.find()) {
            must(12, "made outside of a constructor: " + made.group(2),
                made.group(2).contains("final") || made.group(2).contains("behind[i]"));
        }
    }

    private static void methodLengths(String source) {
        String[] lines = source.split("\n");
        for (int i = 0; i < lines.length; i++) {
            Matcher head = Pattern.compile("^( {4}| {8})[a-zA-Z].*\\) \\{$").matcher(lines[i]);
            if (head.find()) {
                int end = i;
                while (end < lines.length && !lines[end].equals(head.group(1) + "}")) {
                    end++;
                }
                must(11, "a short method: " + lines[i].trim(), end - i <= 60);
            }
        }
    }
}
