import java.io.IOException;
import java.lang.reflect.Method;
import java.lang.reflect.Modifier;
import java.nio.file.Files;
import java.nio.file.Path;
import java.util.Set;
import java.util.TreeSet;

/** LANGUAGE.md, as far as plain words in the program's text tell it. */
final class LanguageTest {
    private static final String[] NEVER = {"->", "::", "instanceof", "catch", "try {", "finally", "synchronized",
        "assert", "static {", "Integer[]", "[][]", "import static", "Exact(", "random", "currentTime", "nanoTime",
        "System.out", "Thread", "lambda", "String.valueOf", "\" +", "+ \"", "hashCode", "toString", "protected",
        "while (true)", "for (;;)", "yield ", "record ", "sealed "};

    private static final String FACE = "int feed(int,int,int,int,int);boolean end(int);int village();int fault();"
        + "int help(int,int)!;int person(int,int)!;int need(int,int);int tie(int,int,int);int book();int wrong(int);"
        + "int judge(int);int came(int,int)!;int bound(int,int,int);int found(int);int pair(int,int);"
        + "long best(int,int,int,int,int)!;int does(int,int,int,int,int);int willing(int,int,int);"
        + "boolean ways(int,int,int);int run(int,int);int runBy(int);int runOf(int);int left(int);int leftBy(int);"
        + "int think(int,int,int,int);int thinkOf(int,int);int sentence();int said();boolean image(int);"
        + "boolean restore(int);int count(int);";

    private LanguageTest() {
    }

    public static void main(String[] args) throws IOException {
        String text = Files.readString(Path.of("src/main/java/NightHelp.java"));
        for (String word : NEVER) {
            Due.same("the program has " + word, text.contains(word), false);
        }
        for (String line : text.split("\n")) {
            if (line.startsWith("import")) {
                Due.same(line, line.equals("import java.util.Arrays;")
                    || line.equals("import java.util.NoSuchElementException;"), true);
            }
            if (line.contains("throw ")) {
                Due.same(line, line.trim().equals("throw new NoSuchElementException();"), true);
            }
            if (line.contains("class ")) {
                boolean inside = line.startsWith("    private static final class ");
                Due.same(line, inside || line.equals("public final class NightHelp {"), true);
            }
        }
        shortMethods(text.split("\n"));
        face();
        inside();
        Due.same("nothing but bytes of 1 to 127", text.chars().allMatch(c -> c > 0 && c < 128), true);
        Due.finish();
    }

    /** All that is not private is told in the document, and all that the document tells is there. */
    private static void face() {
        Set<String> told = new TreeSet<>(Set.of(FACE.split(";")));
        Set<String> names = new TreeSet<>();
        for (Method method : NightHelp.class.getDeclaredMethods()) {
            if (Modifier.isPrivate(method.getModifiers())) {
                continue;
            }
            StringBuilder line = new StringBuilder(method.getReturnType() + " " + method.getName() + "(");
            for (Class<?> type : method.getParameterTypes()) {
                line.append(line.charAt(line.length() - 1) == '(' ? "" : ",").append(type);
            }
            Class<?>[] thrown = method.getExceptionTypes();
            boolean throwing = thrown.length == 1 && thrown[0] == java.util.NoSuchElementException.class;
            line.append(throwing ? ")!" : ")");
            Due.same("in the face: " + line, told.remove(line.toString()), true);
            Due.same("public: " + line, Modifier.isPublic(method.getModifiers()), true);
            names.add(method.getName());
        }
        Due.same("not in the face: " + told, told.size(), 0);
        for (Method method : NightHelp.class.getDeclaredMethods()) {
            if (Modifier.isPrivate(method.getModifiers())) {
                Due.same("a private method has a public one's name: " + method, names.contains(method.getName()), false);
            }
        }
        Due.same("one constructor", NightHelp.class.getDeclaredConstructors().length, 1);
        Due.same("public", Modifier.isPublic(NightHelp.class.getDeclaredConstructors()[0].getModifiers()), true);
        for (java.lang.reflect.Field field : NightHelp.class.getDeclaredFields()) {
            Due.same(field.toString(), Modifier.isPrivate(field.getModifiers()) || field.getName().equals("NONE"), true);
        }
    }

    private static void inside() {
        Class<?>[] classes = NightHelp.class.getDeclaredClasses();
        Due.same("twelve classes or less: " + classes.length, classes.length <= 12, true);
        for (Class<?> one : classes) {
            Due.same(one + " is static", Modifier.isStatic(one.getModifiers()), true);
            for (Method method : one.getDeclaredMethods()) {
                Due.same("seven parameters or less: " + method, method.getParameterCount() <= 7, true);
            }
            int fields = 0;
            for (java.lang.reflect.Field field : one.getDeclaredFields()) {
                fields += Modifier.isStatic(field.getModifiers()) ? 0 : 1;
                Due.same("static and not final: " + field,
                    Modifier.isStatic(field.getModifiers()) && !Modifier.isFinal(field.getModifiers()), false);
            }
            Due.same(one + " has some twenty fields or less: " + fields, fields <= 20, true);
        }
    }

    private static void shortMethods(String[] lines) {
        int from = 0;
        for (int i = 0; i < lines.length; i++) {
            boolean begins = lines[i].matches(" {4,8}[a-z][^=]*\\) (throws NoSuchElementException )?\\{");
            from = begins ? i : from;
            if (lines[i].matches(" {4}(    )?\\}")) {
                Due.same("a method of more than 60 lines ends at " + (i + 1),
                    i - from > 60 && !lines[i + 1].isEmpty(), false);
            }
        }
    }
}
