import java.io.IOException;
import java.nio.file.Files;
import java.nio.file.Path;
import java.util.Arrays;
import java.util.regex.Matcher;
import java.util.regex.Pattern;

/** The examples of README.md answer as it says, and it names every call as the class has it. */
public final class SandLorryReadme {
    private static final Pattern EXAMPLE = Pattern.compile("x\\.(\\w+)\\(([^)]*)\\); +// (-?\\d+)(:.*)?");
    private static int asked = 0;
    private static int wrong = 0;

    public static void main(String[] args) throws IOException {
        String page = Files.readString(Path.of("README.md"));
        Matcher blocks = Pattern.compile("(?s)```java\n(.*?)```").matcher(page);
        while (blocks.find()) {
            tryBlock(blocks.group(1).split("\n"));
        }
        must("there are examples", asked > 0);
        namesEveryCall(page);
        System.out.println(asked + " examples tried, " + wrong + " wrong");
        if (wrong != 0) {
            System.exit(1);
        }
    }

    private static void tryBlock(String[] lines) {
        must("an example begins with a new object", lines[0].equals("SandLorry x = new SandLorry();"));
        SandLorry x = new SandLorry();
        for (int i = 1; i < lines.length; i++) {
            Matcher m = EXAMPLE.matcher(lines[i]);
            if (!m.matches()) {
                must("no example: " + lines[i], false);
                continue;
            }
            int got = Edge.call(x, m.group(1), numbersOf(m.group(2)));
            asked++;
            must(lines[i] + " answered " + got, got == Integer.parseInt(m.group(3)));
        }
    }

    private static int[] numbersOf(String row) {
        return row.isEmpty() ? new int[0] : Arrays.stream(row.split(", ")).mapToInt(Integer::decode).toArray();
    }

    private static void namesEveryCall(String page) {
        Arrays.stream(SandLorry.class.getDeclaredMethods())
            .filter(m -> java.lang.reflect.Modifier.isPublic(m.getModifiers()))
            .forEach(m -> {
                Matcher told = Pattern.compile("`" + m.getName() + "\\((\\w+(, \\w+)*)?\\)`").matcher(page);
                boolean isTold = told.find();
                int numbers = !isTold || told.group(1) == null ? 0 : told.group(1).split(", ").length;
                must("the call " + m.getName() + " is told", isTold && numbers == m.getParameterCount());
            });
    }

    private static void must(String what, boolean holds) {
        if (!holds) {
            wrong++;
            System.out.println("README.md: " + what);
        }
    }
}
