import java.io.IOException;
import java.nio.file.Files;
import java.nio.file.Path;
import java.util.ArrayList;
import java.util.List;
import java.util.regex.Pattern;

/** README.md: the calls that it shows answer what it tells behind them, in that order. */
final class ReadmeTest {
    private static final List<String> TOLD = new ArrayList<>();

    private static final NightHelp x = new NightHelp();

    private ReadmeTest() {
    }

    public static void main(String[] args) throws IOException {
        String readme = Files.readString(Path.of("README.md"));
        for (String line : readme.split("\n")) {
            if (line.startsWith("x.") || line.startsWith("put(")) {
                TOLD.add(line);
            }
        }
        Due.same("README.md feeds as this test does", plain(readme).contains(plain(putHere())), true);
        village();
        book();
        runs();
        others();
        Due.same("calls of README.md that were not made: " + TOLD, TOLD.size(), 0);
        Due.finish();
    }

    private static String plain(String text) {
        return text.replaceAll("\\s+", " ");
    }

    private static String putHere() throws IOException {
        String here = Files.readString(Path.of("src/test/java/ReadmeTest.java"));
        int from = here.indexOf("\n    static void put(");
        return here.substring(from, here.indexOf("\n    }", from) + 6);
    }

    static void put(NightHelp x, String text) {
        int before = x.count(7);
        for (int i = 0; i < text.length(); i += 20) {
            int[] n = new int[5];
            for (int j = 0; j < 20; j++) {
                n[j / 4] = n[j / 4] << 8 | (i + j < text.length() ? text.charAt(i + j) : ' ');
            }
            x.feed(n[0], n[1], n[2], n[3], n[4]);
        }
        x.end(before + text.length());
    }

    private static String next() {
        return TOLD.isEmpty() ? "nothing more" : TOLD.remove(0);
    }

    private static void text(String text) {
        String line = next();
        Due.same(line + " stands where this is put: " + text, line.equals("put(x, \"" + text + "\");"), true);
        put(x, text);
    }

    private static void call(String call, long answer) {
        String line = next();
        boolean there = line.matches(Pattern.quote("x." + call + ";") + " *// -?[0-9]+: .*");
        Due.same(line + " stands where this is called: " + call, there, true);
        if (there) {
            Due.same(call, answer, Long.parseLong(line.replaceAll(".*// (-?[0-9]+): .*", "$1")));
        }
    }

    private static void call(String call, boolean answer) {
        call(call, answer ? 1 : 0);
    }

    private static void village() {
        text("help dig 20 3; person al 2 can dig 5; person bo 1 needs dig; person cy 1 can dig 4;");
        text("friend al bo 5; sees bo al 4; sees cy al 5; binds 2;");
        call("village()", x.village());
        call("count(2)", x.count(2));
        call("found(0)", x.found(0));
        call("best(0, 0, 1, 0, 1)", x.best(0, 0, 1, 0, 1));
        call("does(0, 0, 1, 0, 1)", x.does(0, 0, 1, 0, 1));
    }

    private static void book() {
        text("al helps bo dig; bo thanks al dig; year 1; al helps bo dig hidden; bo thanks cy dig;");
        text("year 2; cy leaves bo dig;");
        call("book()", x.book());
        call("wrong(4)", x.wrong(4));
        call("judge(1)", x.judge(1));
        call("judge(2)", x.judge(2));
        call("came(0, 0)", x.came(0, 0));
        call("came(0, 1)", x.came(0, 1));
        call("bound(0, 1, 0)", x.bound(0, 1, 0));
        text("helped > 0 and not free");
        call("sentence()", x.sentence());
        call("said()", x.said());
    }

    private static void runs() {
        call("ways(0, 2, 0)", x.ways(0, 2, 0));
        call("ways(1, 0, 1)", x.ways(1, 0, 1));
        call("run(10, 7)", x.run(10, 7));
        call("runBy(1)", x.runBy(1));
        call("runBy(2)", x.runBy(2));
        call("runOf(0)", x.runOf(0));
    }

    private static void others() {
        call("left(1)", x.left(1));
        call("leftBy(0)", x.leftBy(0));
        call("think(1, 0, 4, 0)", x.think(1, 0, 4, 0));
        call("thinkOf(0, 0)", x.thinkOf(0, 0));
        call("thinkOf(0, 1)", x.thinkOf(0, 1));
        call("image(0)", x.image(0));
        text("help dig 20;");
        call("village()", x.village());
        call("fault()", x.fault());
        call("count(1)", x.count(1));
    }
}
