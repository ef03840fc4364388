import java.util.NoSuchElementException;
import java.util.Random;

/** All promises: whatever is called with, nothing but what the document tells is thrown, and each call ends. */
final class WildTest {
    private static final int[] EDGES = {0, 1, 2, 3, 5, 6, 7, 8, 9, 10, 19, 20, 21, 47, 48, 60, 61, -1, -2, -8, 31, 32,
        99, 100, 940, Integer.MAX_VALUE, Integer.MIN_VALUE, Integer.MAX_VALUE - 1, Integer.MIN_VALUE + 1};
    private static final String[] WORDS = {"help", "person", "can", "needs", "friend", "sees", "binds", "out", "gift",
        "year", "helps", "hidden", "thanks", "leaves", "or", "and", "not", "bound", "free", "gained", "felt", "helped",
        "bonds", "broken", "a", "b", "c", "p", "q", "r", "0", "1", "3", "9", "10", "99", "100", "999", ";", ";", ";",
        "(", ")", "<", "=", ">", "aaaaaaa", "1234", "a1", "\n", "."};
    private static final String VILLAGE = "help a 9 1;help b 5 0;person p 1 can a 1 needs b;person q 2 can a 4 can b 2;"
        + "person r 0 needs a needs b can b 7;friend p r 4;friend q p 9;sees r p 5;sees p q 10;sees r q 3;";

    private final Random dice;
    private final NightHelp x = new NightHelp();
    private int calls = 0;

    private WildTest(long seed) {
        dice = new Random(seed);
    }

    public static void main(String[] args) {
        for (long seed = 1; seed <= 1200 && Due.allWell(); seed++) {
            WildTest test = new WildTest(seed);
            if (seed % 3 != 0) {
                test.calls = 20;
                Due.village(test.x, VILLAGE);
            }
            while (test.calls < 440) {
                int call = test.dice.nextInt(31);
                try {
                    test.call(call);
                } catch (NoSuchElementException due) {
                    Due.same("seed " + seed + ", call " + call + " may throw", call < 4, true);
                } catch (RuntimeException undue) {
                    Due.tell("seed " + seed + ", call " + call + " throws " + undue);
                }
            }
        }
        Due.finish();
    }

    private int any() {
        return dice.nextInt(10) < 7 ? EDGES[dice.nextInt(dice.nextInt(4) == 0 ? EDGES.length : 4)] : dice.nextInt();
    }

    private void text() {
        StringBuilder text = new StringBuilder(dice.nextInt(4) == 0 ? VILLAGE : "");
        for (int i = dice.nextInt(dice.nextBoolean() ? 8 : 200); i > 0 && text.length() < 800; i--) {
            text.append(WORDS[dice.nextInt(WORDS.length)]).append(dice.nextInt(8) == 0 ? "" : " ");
        }
        if (x.count(7) + text.length() <= 900) {
            calls += 5 + text.length() / 20;
            Due.feed(x, text.toString());
        }
    }

    /** Some more calls are left for the longest text: after 512 an object may answer anything. */
    private void call(int call) {
        calls++;
        switch (call) {
            case 0 -> x.help(any(), any());
            case 1 -> x.person(any(), any());
            case 2 -> x.came(any(), any());
            case 3 -> x.best(any(), any(), any(), any(), any());
            case 4 -> x.feed(any(), any(), any(), any(), any());
            case 5 -> x.end(any());
            case 6 -> x.village();
            case 7 -> x.fault();
            case 8 -> x.need(any(), any());
            case 9 -> x.tie(any(), any(), any());
            case 10 -> x.book();
            case 11 -> x.wrong(any());
            case 12 -> x.judge(any());
            case 13 -> x.bound(any(), any(), any());
            case 14 -> x.found(any());
            case 15 -> x.pair(any(), any());
            case 16 -> x.does(any(), any(), any(), any(), any());
            case 17 -> x.willing(any(), any(), any());
            case 18 -> x.ways(any(), any(), any());
            case 19 -> x.run(any(), any());
            case 20 -> x.runBy(any());
            case 21 -> x.runOf(any());
            case 22 -> x.left(any());
            case 23 -> x.leftBy(any());
            case 24 -> x.think(any(), any(), any(), any());
            case 25 -> x.thinkOf(any(), any());
            case 26 -> x.sentence();
            case 27 -> x.said();
            case 28 -> x.image(any());
            case 29 -> x.restore(any());
            default -> textOrCount();
        }
    }

    private void textOrCount() {
        calls += 4;
        x.count(any());
        text();
        if (dice.nextBoolean()) {
            int which = dice.nextInt(3);
            int answer = which == 0 ? x.village() : which == 1 ? x.book() : x.sentence();
            Due.same("a fault is told with its place alone", answer < 0, x.fault() != 0);
            Due.same("the tape is empty", x.count(7), 0);
        }
    }
}
