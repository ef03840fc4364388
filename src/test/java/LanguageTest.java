import java.io.IOException;
import java.nio.file.Files;
import java.nio.file.Path;

/** LANGUAGE.md, as far as plain words in the program's text tell it. */
final class LanguageTest {
    private static final String[] NEVER = {"->", "::", "instanceof", "catch", "try {", "finally", "synchronized",
        "assert", "static {", "Integer[]", "[][]", "import static", "Exact(", "random", "currentTime", "nanoTime",
        "System.out", "Thread", "lambda", "String.valueOf", "\" +", "+ \"", "hashCode", "toString", "protected",
        "while (true)", "for (;;)", "yield ", "record ", "sealed "};

    private LanguageTest() {
    }

    public static void main(String[] args) throws IOException {
        String text = Files.readString(Path.of("src/main/java/NightHelp.java"));
        for (String word : NEVER) {
            Due.same("the program has " + word, text.contains(word), false);
        }
        for (String line : text.split("\n")) {
            if (line.startsWith("import")) {
                Due.same(line, line.equals("import java.util.Arrays;")
                    || line.equals("import java.util.NoSuchElementException;"), true);
            }
            if (line.contains("throw ")) {
                Due.same(line, line.trim().equals("throw new NoSuchElementException();"), true);
            }
            if (line.contains("class ")) {
                boolean inside = line.startsWith("    private static final class ");
                Due.same(line, inside || line.equals("public final class NightHelp {"), true);
            }
        }
        shortMethods(text.split("\n"));
        Due.same("nothing but bytes of 1 to 127", text.chars().allMatch(c -> c > 0 && c < 128), true);
        Due.finish();
    }

    private static void shortMethods(String[] lines) {
        int from = 0;
        for (int i = 0; i < lines.length; i++) {
            boolean begins = lines[i].matches(" {4,8}[a-z][^=]*\\) (throws NoSuchElementException )?\\{");
            from = begins ? i : from;
            if (lines[i].matches(" {4}(    )?\\}")) {
                Due.same("a method of more than 60 lines ends at " + (i + 1),
                    i - from > 60 && !lines[i + 1].isEmpty(), false);
            }
        }
    }
}
