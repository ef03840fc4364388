/** "==== 3." of the document, LEFT and THINK: each sentence with what is allowed last and what is not first. */
final class LeftEdgesTest {
    private static final String SIX = "help a 1 1;help b 1 1;help c 1 1;help d 1 1;help e 1 1;help f 1 1;";
    private static final String ALL = " needs a needs b needs c needs d needs e needs f";

    private LeftEdgesTest() {
    }

    public static void main(String[] args) {
        atMost();
        nineAtMost();
        ofOthers();
        mostNeeds();
        needByNeed();
        lesserPerson();
        nobodyBehindAll();
        eachWhoCan();
        friendship();
        outside();
        home();
        together();
        likeOnes();
        Due.finish();
    }

    private static void due(NightHelp x, int m, int met, int... by) {
        Due.same("left(" + m + ")", x.left(m), met);
        for (int n = 0; n < by.length; n++) {
            Due.same("leftBy(" + n + ") of left(" + m + ")", x.leftBy(n), by[n]);
        }
        Due.same("leftBy behind all", x.leftBy(by.length), -1);
    }

    // ---- LEFT

    private static void atMost() {
        Due.says("LEFT: each PERSON does m NEEDS of others at most (0 to 9):");
        NightHelp x = Due.of(SIX + "person p 0 can a 1 can b 1 can c 1 can d 1 can e 1 can f 1;person q 0" + ALL + ";");
        due(x, 0, 0, -1, -1, -1, -1, -1, -1);
        due(x, 1, 1, 0, -1, -1, -1, -1, -1);
        due(x, 2, 2, 0, 0, -1, -1, -1, -1);
        due(x, 5, 5, 0, 0, 0, 0, 0, -1);
        due(x, 6, 6, 0, 0, 0, 0, 0, 0);
        due(x, 7, 6, 0, 0, 0, 0, 0, 0);
        due(x, 9, 6, 0, 0, 0, 0, 0, 0);
        int[] not = {-1, 10, 11, Integer.MAX_VALUE, Integer.MIN_VALUE};
        for (int m : not) {
            Due.same("left(" + m + ")", x.left(m), -1);
            Due.same("the latest stays", x.leftBy(5), 0);
        }
    }

    private static void nineAtMost() {
        Due.says("LEFT: each PERSON does m NEEDS of others at most (0 to 9):");
        NightHelp x = Due.of(SIX + "person p 0 can a 1 can b 1 can c 1 can d 1 can e 1 can f 1;person q 0" + ALL
            + ";person r 0" + ALL + ";");
        due(x, 8, 8, 0, 0, 0, 0, 0, 0, 0, 0, -1, -1, -1, -1);
        due(x, 9, 9, 0, 0, 0, 0, 0, 0, 0, 0, 0, -1, -1, -1);
    }

    private static void ofOthers() {
        Due.says("each PERSON does m NEEDS of others at most");
        NightHelp x = Due.of("help a 1 1;person p 1 can a 1 needs a;");
        due(x, 9, 0, -1);
        x = Due.of("help a 1 1;person p 1 can a 1 needs a;person q 1 can a 1 needs a;");
        due(x, 9, 2, 1, 0);
        due(x, 1, 2, 1, 0);
        x = Due.of("help a 1 1;person p 1 can a 1 needs a;person q 1 needs a;");
        due(x, 9, 1, -1, 0);
        x = Due.of("help a 1 1;help b 1 1;person p 1 can b 1;person q 1 needs a;");
        due(x, 9, 0, -1);
    }

    private static void mostNeeds() {
        Due.says("the most NEEDS that are met,");
        // the first NEED must go to the second one, or the second NEED is left
        NightHelp x = Due.of("help a 1 1;help b 1 1;person p 1 can a 1 can b 1;person q 1 can a 1;person r 1 needs a needs b;");
        due(x, 1, 2, 1, 0);
        due(x, 2, 2, 0, 0);
        // one must be handed on along three
        x = Due.of("help a 1 1;help b 1 1;help c 1 1;person p 1 can a 1 can c 1;person q 1 can a 1 can b 1;"
            + "person s 1 can b 1;person r 1 needs a needs b needs c;");
        due(x, 1, 3, 1, 2, 0);
        // one must be handed on along all eight
        x = Due.of("help a 1 1;help b 1 1;help c 1 1;help d 1 1;help e 1 1;person p 1 can a 1 can b 1;"
            + "person q 1 can b 1 can c 1 needs c;person r 1 can c 1 needs b;person s 1 can c 1 can d 1 needs c needs d;"
            + "person t 1 can d 1;person u 1 can d 1 can e 1 needs d needs e;person v 1 can e 1;"
            + "person w 1 can e 1 needs e needs a;");
        due(x, 1, 8, 3, 1, 2, 5, 4, 7, 6, 0);
        due(new NightHelp(), 9, 0);
        // who could in the VILLAGE before can't in this one
        Due.village(x, "help a 1 1;help b 1 1;help c 1 1;person p 1 can c 1;person q 1 can a 1;person s 1;"
            + "person r 1 needs a needs b needs c;");
        due(x, 9, 2, 1, -1, 0);
        // as many as there are at most: five do nine each
        x = Due.of(everybody());
        Due.same("48 NEEDS", x.count(2), 48);
        for (int m = 0; m <= 9; m++) {
            Due.same("left(" + m + ") of 48", x.left(m), Math.min(48, 5 * m));
        }
        // p can but for p, w but for w: the last NEED stays with p, though an earlier one would have p too
        x = Due.of(everybody().replace(" can a 1 can b 1 can c 1 can d 1 can e 1 can f 1;", ";")
            .replace("person p 0", "person p 0 can f 1").replace("person w 0", "person w 0 can f 1"));
        Due.same("all who need f", x.left(4), 8);
        int[] by = {7, 0, 0, 0, 7, 7, 7, 0};
        for (int n = 0; n < 48; n++) {
            Due.same("NEED " + n, x.leftBy(n), n % 6 == 5 ? by[n / 6] : -1);
        }
        // the last of all by the only one who can, the first by the last one
        x = Due.of(everybody().replace(" can a 1 can b 1 can c 1 can d 1 can e 1 can f 1;", ";")
            .replace("person p 0", "person p 0 can f 1").replace("person w 0", "person w 0 can a 1"));
        Due.same("all that p and w can", x.left(9), 14);
        for (int n = 0; n < 48; n++) {
            Due.same("NEED " + n, x.leftBy(n), n % 6 == 5 && n > 5 ? 0 : n % 6 == 0 && n < 42 ? 7 : -1);
        }
    }

    private static String everybody() {
        StringBuilder text = new StringBuilder(SIX);
        for (char p = 'p'; p <= 'w'; p++) {
            text.append("person ").append(p).append(" 0").append(ALL);
            text.append(p < 'u' ? " can a 1 can b 1 can c 1 can d 1 can e 1 can f 1;" : ";");
        }
        return text.toString();
    }

    private static void needByNeed() {
        Due.says("by whom: the first (NEED by NEED, the lesser PERSON, nobody behind all).");
        // either NEED may be left: it is the later one
        NightHelp x = Due.of("help a 1 1;person p 1 can a 1;person q 1 needs a;person r 1 needs a;person s 1 needs a;");
        due(x, 1, 1, 0, -1, -1);
        due(x, 2, 2, 0, 0, -1);
        due(x, 3, 3, 0, 0, 0);
        // the first NEED by p, though the second is left so, for as many are met
        x = Due.of("help a 1 1;help b 1 1;help c 1 1;person p 1 can a 1 can b 1;person q 1 can a 1 can c 1;"
            + "person r 1 needs a needs b needs c;");
        due(x, 1, 2, 0, -1, 1);
        // the first by q alone, or the last is left; the second by the lesser of the rest
        x = Due.of("help a 1 1;help b 1 1;help c 1 1;person p 1 can a 1 can c 1;person q 1 can a 1;person s 1 can b 1 can c 1;"
            + "person t 1 can b 1;person r 1 needs a needs b needs c;");
        due(x, 1, 3, 0, 3, 2);
        due(x, 2, 3, 0, 2, 0);
    }

    private static void lesserPerson() {
        Due.says("by whom: the first (NEED by NEED, the lesser PERSON, nobody behind all).");
        NightHelp x = Due.of("help a 1 1;person p 1 can a 1;person q 1 can a 1;person r 1 needs a;person s 1 needs a;");
        due(x, 1, 2, 0, 1);
        due(x, 2, 2, 0, 0);
        x = Due.of("help a 1 1;person r 1 needs a;person s 1 needs a;person p 1 can a 1;person q 1 can a 1;");
        due(x, 1, 2, 2, 3);
        due(x, 2, 2, 2, 2);
    }

    private static void nobodyBehindAll() {
        Due.says("the lesser PERSON, nobody behind all).");
        // the last PERSON goes ahead of nobody
        NightHelp x = Due.of("help a 1 1;person r 1 needs a;person s 1 needs a;person o 1;person t 1;person u 1;person v 1;"
            + "person p 1;person w 1 can a 1;");
        due(x, 1, 1, 7, -1);
        due(x, 9, 2, 7, 7);
    }

    // ---- THINK

    private static final String NIGHT = "help a 1 1;help b 1 1;person p 1 can a 1;person q 1 can a 1 needs a;person r 1 can a 1;"
        + "person s 1;friend p q 2;friend r q 10;friend q p 9;friend s q 10;";

    private static void parts(NightHelp x, int all, int... parts) {
        for (int q = 0; q < parts.length; q++) {
            Due.same("PARTS of PERSON " + q, x.thinkOf(q, 0), parts[q]);
            Due.same("PARTS of all", x.thinkOf(q, 1), all);
        }
    }

    private static void eachWhoCan() {
        Due.says("THINK: who did a HELP for p by night: of each who can (not p):");
        NightHelp x = Due.of(NIGHT);
        Due.same("for q", x.think(1, 0, 0, 0), 2);
        parts(x, 14, 3, 0, 11, 0);
        Due.same("for s, who can't", x.think(3, 0, 0, 0), 0);
        parts(x, 3, 1, 1, 1, 0);
        Due.same("for p", x.think(0, 0, 0, 0), 1);
        parts(x, 11, 0, 10, 1, 0);
        Due.same("nobody can", x.think(1, 1, 0, 0), -1);
        NightHelp y = Due.of("help a 1 1;person p 1 can a 1;");
        Due.same("p alone can", y.think(0, 0, 1, 0), -1);
        y = Due.of("help a 1 1;person p 1 can a 1;person q 1;");
        Due.same("the other one alone can", y.think(1, 0, 0, 0), 0);
        Due.same("p alone can", y.think(0, 0, 0, 0), -1);
    }

    private static void friendship() {
        Due.says("1 and N of the friendship for p,");
        for (int n = 0; n <= 10; n++) {
            NightHelp x = Due.of("help a 1 1;person p 1;person q 1 can a 1;friend p q 5;"
                + (n > 0 ? "friend q p " + n + ";" : ""));
            Due.same("by " + n, x.think(0, 0, 0, 0), 1);
            parts(x, 1 + n, 0, 1 + n);
        }
    }

    private static void outside() {
        Due.says("three times, if seen outside, 0, if seen at home:");
        NightHelp x = Due.of(NIGHT);
        Due.same("p outside", x.think(1, 0, 1, 0), 2);
        parts(x, 20, 9, 0, 11, 0);
        Due.same("r outside", x.think(1, 0, 4, 0), 2);
        parts(x, 36, 3, 0, 33, 0);
        Due.same("all bits", x.think(1, 0, -1, 0), 2);
        parts(x, 42, 9, 0, 33, 0);
        Due.same("bits of others", x.think(1, 0, -1 & ~5, 0), 2);
        parts(x, 14, 3, 0, 11, 0);
    }

    private static void home() {
        Due.says("0, if seen at home:");
        NightHelp x = Due.of(NIGHT);
        Due.same("r at home", x.think(1, 0, 0, 4), 0);
        parts(x, 3, 3, 0, 0, 0);
        Due.same("r outside and at home", x.think(1, 0, 4, 4), 0);
        parts(x, 3, 3, 0, 0, 0);
        Due.same("bits of others", x.think(1, 0, 0, -1 & ~5), 2);
        parts(x, 14, 3, 0, 11, 0);
        Due.same("all at home", x.think(1, 0, 0, 5), -1);
        Due.same("all bits", x.think(1, 0, -1, -1), -1);
        parts(x, 14, 3, 0, 11, 0);
    }

    private static void together() {
        Due.says("PARTS of all together; the one with the most (of like ones the least).");
        StringBuilder text = new StringBuilder("help a 1 1;person p 1;");
        for (char q = 'q'; q <= 'w'; q++) {
            text.append("person ").append(q).append(" 1 can a 1;friend ").append(q).append(" p ").append(q - 'p').append(';');
        }
        NightHelp x = Due.of(text.toString());
        Due.same("the last of seven", x.think(0, 0, 0, 0), 7);
        parts(x, 2 + 3 + 4 + 5 + 6 + 7 + 8, 0, 2, 3, 4, 5, 6, 7, 8);
        Due.same("the last but one", x.think(0, 0, 0, 128), 6);
        Due.same("by one more", x.think(0, 0, 4, 0), 2);
        parts(x, 35 + 6, 0, 2, 9, 4, 5, 6, 7, 8);
        Due.same("the last one outside", x.think(0, 0, 128, 0), 7);
        parts(x, 35 + 16, 0, 2, 3, 4, 5, 6, 7, 24);
    }

    private static void likeOnes() {
        Due.says("the one with the most (of like ones the least).");
        NightHelp x = Due.of("help a 1 1;person p 1;person q 1 can a 1;person r 1 can a 1;person s 1 can a 1;friend r p 2;"
            + "friend s p 2;");
        Due.same("r and s", x.think(0, 0, 0, 0), 2);
        Due.same("q by three, as r and s", x.think(0, 0, 2, 0), 1);
        Due.same("s alone", x.think(0, 0, 0, 4), 3);
    }
}
