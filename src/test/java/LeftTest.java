/** Promises 24 to 27: who is left without, and who most likely did it. */
final class LeftTest {
    private LeftTest() {
    }

    public static void main(String[] args) {
        left();
        leastPersonsFirst();
        oneself();
        leftNotAsTold();
        large();
        think();
        thinkNotAsTold();
        Due.finish();
    }

    private static void due(NightHelp x, int m, int met, int... by) {
        Due.same("left(" + m + ")", x.left(m), met);
        for (int n = 0; n < by.length; n++) {
            Due.same("leftBy(" + n + ") of left(" + m + ")", x.leftBy(n), by[n]);
        }
        Due.same("leftBy behind all", x.leftBy(by.length), -1);
        Due.same("leftBy(-1)", x.leftBy(-1), -1);
    }

    private static void left() {
        NightHelp x = Due.of("help a 1 1;help b 1 1;person pa 1 can a 1 can b 1;person pb 1 can b 1;"
            + "person pc 1 needs a needs b;person pd 1 needs b;");
        due(x, 0, 0, -1, -1, -1);
        due(x, 1, 2, 0, 1, -1);
        due(x, 2, 3, 0, 0, 1);
        due(x, 3, 3, 0, 0, 0);
        due(x, 9, 3, 0, 0, 0);
    }

    private static void leastPersonsFirst() {
        NightHelp x = Due.of("help a 1 1;help b 1 1;person pa 1 can a 1 can b 1;person pb 1 can a 1;"
            + "person pc 1 needs a needs b;");
        due(x, 1, 2, 1, 0);
        due(x, 2, 2, 0, 0);
        // one is left, the last that can be
        x = Due.of("help a 1 1;person pa 1 can a 1;person pb 1 needs a;person pc 1 needs a;");
        due(x, 1, 1, 0, -1);
        // the first need is met by another one, so that a later need is met too
        x = Due.of("help a 1 1;help b 1 1;help c 1 1;person pa 1 can a 1 can b 1;person pb 1 can b 1 can c 1;"
            + "person pc 1 can c 1 can a 1;person pd 1 needs a needs b needs c;");
        due(x, 1, 3, 0, 1, 2);
        x = Due.of("help a 1 1;help b 1 1;help c 1 1;person pa 1 can a 1 can b 1;person pb 1 can b 1;"
            + "person pc 1 can c 1 can a 1;person pd 1 needs a needs b needs c;");
        due(x, 1, 3, 0, 1, 2);
        x = Due.of("help a 1 1;help b 1 1;help c 1 1;person pa 1 can a 1 can b 1;person pb 1 can a 1 can c 1;"
            + "person pc 1 can c 1;person pd 1 needs a needs b needs c;");
        due(x, 1, 3, 1, 0, 2);
        // who meets the first need goes ahead of whether the second one is met
        x = Due.of("help a 1 1;help b 1 1;help c 1 1;person pa 1 can a 1 can b 1;person pb 1 can a 1 can c 1;"
            + "person pd 1 needs a needs b needs c;");
        due(x, 1, 2, 0, -1, 1);
        // the third need could be met by moving the first, but it is met by moving the second
        x = Due.of("help a 1 1;help b 1 1;help c 1 1;person pa 1 can a 1 can c 1;person pb 1 can a 1;"
            + "person pc 1 can b 1 can c 1;person pd 1 can b 1;person pe 1 needs a needs b needs c;");
        due(x, 1, 3, 0, 3, 2);
        due(x, 2, 3, 0, 2, 0);
    }

    private static void oneself() {
        NightHelp x = Due.of("help a 1 1;person pa 1 can a 1 needs a;");
        due(x, 5, 0, -1);
        x = Due.of("help a 1 1;person pa 1 can a 1 needs a;person pb 1 can a 1 needs a;");
        due(x, 5, 2, 1, 0);
    }

    private static void leftNotAsTold() {
        NightHelp x = new NightHelp();
        Due.same("left(-1)", x.left(-1), -1);
        Due.same("left(10)", x.left(10), -1);
        Due.same("ahead of any", x.leftBy(0), -1);
        Due.same("left of nobody", x.left(9), 0);
        Due.village(x, "help a 1 1;person pa 1 needs a;person pb 1 can a 1;");
        Due.same("not of this village", x.leftBy(0), -1);
        due(x, 1, 1, 1);
        Due.same("left(-1)", x.left(-1), -1);
        Due.same("the latest stays", x.leftBy(0), 1);
        Due.village(x, "");
        Due.same("it stays behind a new village", x.leftBy(0), 1);
    }

    /** Eight persons who all can and need six helps: five helpers do nine each at most. */
    private static void large() {
        StringBuilder text = new StringBuilder();
        for (char k = 'a'; k <= 'f'; k++) {
            text.append("help h").append(k).append(" 9 9;");
        }
        for (char p = 'a'; p <= 'h'; p++) {
            text.append("person p").append(p).append(" 1");
            for (char k = 'a'; k <= 'f'; k++) {
                text.append(" needs h").append(k);
                text.append(p < 'c' ? " can h" + k + " 9" : "");
            }
            text.append(';');
        }
        NightHelp x = Due.of(text.toString());
        Due.same("needs", x.count(2), 48);
        Due.same("two do nine each", x.left(9), 18);
        for (int n = 0; n < 48; n++) {
            Due.same("need " + n, x.leftBy(n), n < 6 ? 1 : n < 15 ? 0 : n < 18 ? 1 : -1);
        }
        Due.same("two do six each", x.left(6), 12);
    }

    private static void think() {
        NightHelp x = Due.of("help a 1 1;help b 1 1;person pa 1 can a 1;person pb 1 can a 1 needs a;person pc 1 can a 1;"
            + "person pd 1;friend pa pb 2;friend pc pb 5;friend pb pa 9;");
        Due.same("pc", x.think(1, 0, 0, 0), 2);
        int[] parts = {3, 0, 6, 0};
        for (int q = 0; q < 4; q++) {
            Due.same("parts of " + q, x.thinkOf(q, 0), parts[q]);
            Due.same("of all", x.thinkOf(q, 1), 9);
        }
        Due.same("pa outside", x.think(1, 0, 1, 0), 0);
        Due.same("nine", x.thinkOf(0, 0), 9);
        Due.same("fifteen", x.thinkOf(0, 1), 15);
        Due.same("pc at home", x.think(1, 0, 0, 4), 0);
        Due.same("none", x.thinkOf(2, 0), 0);
        Due.same("outside and at home", x.think(1, 0, 4, 4), 0);
        Due.same("others count nothing", x.think(1, 0, -8 - 2, 2 | ~15), 2);
        Due.same("of like ones the least", x.think(3, 0, 0, 0), 0);
        Due.same("nobody", x.think(1, 0, 0, 5), -1);
        Due.same("the latest that told one", x.thinkOf(1, 0), 1);
        Due.same("nobody can", x.think(1, 1, 0, 0), -1);
        Due.same("for pa", x.think(0, 0, 0, 4), 1);
        Due.same("ten", x.thinkOf(1, 0), 10);
    }

    private static void thinkNotAsTold() {
        NightHelp x = Due.of("help a 1 1;person pa 1 can a 1;person pb 1 needs a;");
        Due.same("ahead of any", x.thinkOf(0, 0), -1);
        Due.same("person -1", x.think(-1, 0, 0, 0), -1);
        Due.same("person 2", x.think(2, 0, 0, 0), -1);
        Due.same("help -1", x.think(0, -1, 0, 0), -1);
        Due.same("help 1", x.think(0, 1, 0, 0), -1);
        Due.same("oneself", x.think(0, 0, 0, 0), -1);
        Due.same("still ahead of any", x.thinkOf(0, 0), -1);
        Due.same("pa", x.think(1, 0, 0, 0), 0);
        Due.same("another what", x.thinkOf(0, 2), -1);
        Due.same("another what", x.thinkOf(0, -1), -1);
        Due.same("no such one", x.thinkOf(2, 0), -1);
        Due.same("no such one", x.thinkOf(-1, 0), -1);
        Due.village(x, "person z 1;");
        Due.same("of then", x.thinkOf(1, 0), 0);
        Due.same("of then", x.thinkOf(1, 1), 1);
    }
}
