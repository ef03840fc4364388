/** "==== 3." of the document, WAYS and RUN: each sentence with what is allowed last and what is not first. */
final class RunEdgesTest {
    private static final int[] SEEDS = {0, 1, -1, 2, 7, 255, 256, 12345, -987654321, 1103515245, Integer.MAX_VALUE,
        Integer.MIN_VALUE, Integer.MAX_VALUE - 1, Integer.MIN_VALUE + 1};
    /** pa pays 3 and pc 5 for a WORTH of 10, by night 4 besides. */
    private static final String VILLAGE = "help dig 10 4;person pa 9 can dig 3;person pb 0 needs dig;"
        + "person pc 9 can dig 5;binds 1;";

    private RunEdgesTest() {
    }

    public static void main(String[] args) {
        never();
        open();
        night();
        best();
        pair();
        nextGreater();
        cutUp();
        bothDidIt();
        thanksNever();
        thanksAlways();
        thanksIfNone();
        thanksToOther();
        years();
        withoutBonds();
        draws();
        needByNeed();
        boundFirst();
        firstWhoCan();
        yearsLeft();
        allWhoSee();
        pairFound();
        foundAndThanked();
        boundOneNotThanked();
        fromNextYear();
        aboveLimit();
        lastOfAll();
        limitTogether();
        stand();
        Due.finish();
    }

    /** The ways of all: two digits each, of helping and of thanking. */
    private static NightHelp with(String village, String ways) {
        NightHelp x = Due.of(village);
        for (int p = 0; 3 * p < ways.length(); p++) {
            Due.same("ways of " + p, x.ways(p, ways.charAt(3 * p) - '0', ways.charAt(3 * p + 1) - '0'), true);
        }
        return x;
    }

    private static void due(NightHelp x, int years, int seed, int helps, int... by) {
        String call = "run(" + years + ", " + seed + ")";
        Due.same(call, x.run(years, seed), helps);
        for (int what = 0; what < by.length; what++) {
            Due.same("runBy(" + what + ") of " + call, x.runBy(what), by[what]);
        }
    }

    private static void of(NightHelp x, int... helped) {
        for (int p = 0; p < helped.length; p++) {
            Due.same("runOf(" + p + ")", x.runOf(p), helped[p]);
        }
    }

    // ---- the ways of helping

    private static void never() {
        Due.says("WAYS of helping: 0 NEVER, 1 OPEN (always by day), 2 NIGHT (always by night)");
        due(with(VILLAGE + "friend pa pb 10;", "00 01 00"), 7, 1, 0, 0, 0, 0, 0, 0, -1, 7, 0);
    }

    private static void open() {
        Due.says("1 OPEN (always by day)");
        NightHelp x = with(VILLAGE + "sees pb pa 10;", "10 00 00");
        due(x, 7, 1, 7, 7, 0, 0, 0, 0, -1, 0, 49);
        of(x, 7, 0, 0);
        due(with(VILLAGE.replace("can dig 3", "can dig 99"), "10 00 00"), 7, 1, 7, 7, 0, 0, 0, 0, -1, 0, 7 * (10 - 99));
    }

    private static void night() {
        Due.says("2 NIGHT (always by night)");
        NightHelp x = with(VILLAGE, "20 00 00");
        due(x, 7, 1, 7, 0, 7, 0, 0, 0, -1, 0, 21);
        of(x, 7, 0, 0);
        due(with(VILLAGE.replace("10 4", "1 99"), "20 00 00"), 7, 1, 7, 0, 7, 0, 0, 0, -1, 0, 7 * (1 - 3 - 99));
    }

    private static void best() {
        Due.says("3 BEST (as above, under BIND)");
        // a gain of nothing is none, a gain of a tenth is by day, or by night, if that costs nothing
        due(with(VILLAGE + "friend pa pb 3;", "30 00 00"), 5, 1, 0, 0, 0, 0, 0, 0, -1, 5, 0);
        due(with(VILLAGE + "friend pa pb 4;", "30 00 00"), 5, 1, 5, 5, 0, 0, 0, 0, -1, 0, 35);
        due(with(VILLAGE.replace("10 4", "10 0") + "friend pa pb 4;", "30 00 00"), 5, 1, 5, 0, 5, 0, 0, 0, -1, 0, 35);
        // for each NEED by itself
        NightHelp x = with("help dig 10 4;help mend 9 1;help mow 8 2;person pa 9 can dig 3 can mend 3 can mow 3;"
            + "person pb 0 needs mow needs dig needs mend;person pc 9 can dig 2 can mend 9 can mow 4;friend pc pb 5;"
            + "friend pa pb 4;", "30 00 30");
        // pa feels 4, 3.6, 3.2 for a cost of 3 each
        due(x, 5, 1, 15, 15, 0);
        of(x, 15, 0, 0);
        x = with("help dig 10 4;help mend 9 1;help mow 8 2;person pa 9 can dig 4 can mend 3 can mow 4;"
            + "person pb 0 needs mow needs dig needs mend;person pc 9 can dig 2 can mend 2 can mow 4;friend pc pb 5;"
            + "friend pa pb 4;", "30 00 30");
        // pa mends alone, pc digs, nobody mows
        due(x, 5, 1, 10, 10, 0, 0, 0, 0, -1, 5);
        of(x, 5, 0, 5);
        // under GIFT it would be by day
        due(with(VILLAGE + "friend pa pb 3;gift 99;", "30 00 00"), 5, 1, 0, 0, 0, 0, 0, 0, -1, 5, 0);
        due(with(VILLAGE.replace("10 4", "10 0") + "friend pa pb 4;gift 99;", "30 00 00"), 5, 1, 5, 0, 5);
    }

    private static void pair() {
        Due.says("4 PAIR (by night with the next one with a greater number who can and has this way; else none;");
        NightHelp x = with(VILLAGE, "40 00 40");
        due(x, 1, 1, 1, 0, 1, 0, 0, 0, -1, 0, 10 - 2 - 2 - 3 - 2);
        of(x, 1, 0, 1);
        due(with(VILLAGE, "40 00 00"), 3, 1, 0, 0, 0, 0, 0, 0, -1, 3, 0);
        due(with(VILLAGE, "00 00 40"), 3, 1, 0, 0, 0, 0, 0, 0, -1, 3, 0);
        for (int way = 0; way < 4; way++) {
            x = with(VILLAGE, "40 00 " + way + "0");
            x.run(3, 1);
            Due.same("no PAIR with way " + way, x.runOf(0), 0);
        }
    }

    private static void nextGreater() {
        Due.says("4 PAIR (by night with the next one with a greater number who can and has this way; else none;");
        String many = VILLAGE + "person pd 9 can dig 1;person pe 9;person pf 9 can dig 1;";
        NightHelp x = with(many, "40 00 40 40 00 40");
        due(x, 2, 1, 2, 0, 2);
        of(x, 2, 0, 2, 0, 0, 0);
        x = with(many, "40 00 00 40 00 40");
        due(x, 2, 1, 2, 0, 2);
        of(x, 2, 0, 0, 2, 0, 0);
        x = with(many, "00 00 40 40 00 40");
        due(x, 2, 1, 2, 0, 2);
        of(x, 0, 0, 2, 2, 0, 0);
        // the needy one can too, and one with this way can't
        x = with(many.replace("needs dig", "needs dig can dig 1"), "40 40 00 00 40 40");
        due(x, 2, 1, 2, 0, 2);
        of(x, 2, 0, 0, 0, 0, 2);
        // the first without a next one does none, nor does the last
        x = with(many, "00 00 00 00 00 40");
        due(x, 2, 1, 0, 0, 0);
        // whose turn comes later may have an own way ahead
        x = with(many, "00 00 10 40 00 40");
        due(x, 2, 1, 2, 2, 0);
        of(x, 0, 0, 2, 0, 0, 0);
        x = with(many, "00 00 00 40 00 40");
        due(x, 2, 1, 2, 0, 2);
        of(x, 0, 0, 0, 2, 0, 2);
    }

    private static void cutUp() {
        Due.says("each pays half of PAINS and half of HIDE, cut up each, both did it)");
        int[][] costs = {{1, 1, 0}, {1, 2, 1}, {2, 2, 2}, {3, 4, 3}, {98, 99, 98}, {99, 99, 99}};
        for (int[] c : costs) {
            NightHelp x = with("help dig 50 " + c[2] + ";person pa 9 can dig " + c[0] + ";person pb 0 needs dig;"
                + "person pc 9 can dig " + c[1] + ";", "40 00 40");
            int paid = (c[0] + 1) / 2 + (c[1] + 1) / 2 + (c[2] + 1) / 2 * 2;
            due(x, 1, 1, 1, 0, 1, 0, 0, 0, -1, 0, 50 - paid);
        }
        due(with(VILLAGE.replace("10 4", "10 3"), "40 00 40"), 1, 1, 1, 0, 1, 0, 0, 0, -1, 0, 10 - 2 - 2 - 3 - 2);
    }

    private static void bothDidIt() {
        Due.says("cut up each, both did it)");
        NightHelp x = with(VILLAGE, "40 00 40");
        due(x, 60, 1, 60, 0, 60, 0, 0, 0, -1, 0, 60);
        of(x, 60, 0, 60);
    }

    // ---- the ways of thanking

    private static void thanksNever() {
        Due.says("Ways of thanking: 0 never, 1 always,");
        due(with(VILLAGE, "10 00 00"), 9, 1, 9, 9, 0, 0, 0, 0, -1, 0, 63);
    }

    private static void thanksAlways() {
        Due.says("Ways of thanking: 0 never, 1 always,");
        due(with(VILLAGE + "friend pa pb 10;", "10 01 00"), 9, 1, 9, 9, 0, 0, 5, 0, -1, 0, 63);
        due(with(VILLAGE, "10 01 00"), 1, 1, 1, 1, 0, 0, 1, 0, -1, 0, 7);
        // the needy one's way, not the helper's
        due(with(VILLAGE, "11 00 11"), 9, 1, 9, 9, 0, 0, 0, 0, -1, 0, 63);
    }

    private static void thanksIfNone() {
        Due.says("2 if who helped would do none under NOTHING, not bound,");
        due(with(VILLAGE + "friend pa pb 2;", "10 02 00"), 9, 1, 9, 9, 0, 0, 5, 0, -1);
        due(with(VILLAGE + "friend pa pb 3;", "10 02 00"), 9, 1, 9, 9, 0, 0, 5, 0, -1);
        due(with(VILLAGE + "friend pa pb 4;", "10 02 00"), 9, 1, 9, 9, 0, 0, 0, 0, -1);
        // by night, if that costs nothing, is not none either
        due(with(VILLAGE.replace("10 4", "10 0") + "friend pa pb 4;", "10 02 00"), 9, 1, 9, 9, 0, 0, 0);
        // who helped, not who needs, nor another one
        due(with(VILLAGE + "friend pb pa 10;friend pc pb 10;", "10 02 00"), 9, 1, 9, 9, 0, 0, 5);
        // a gift is nothing here
        due(with(VILLAGE + "friend pa pb 3;gift 99;", "10 02 00"), 9, 1, 9, 9, 0, 0, 5);
        due(with(VILLAGE + "friend pa pb 3;", "10 02 00"), 60, 1, 60, 60, 0, 0, 30);
        due(with(VILLAGE + "friend pa pb 4;", "10 02 00"), 60, 1, 60, 60, 0, 0, 0);
    }

    private static void thanksToOther() {
        Due.says("3 the first other one who can (not the needy one; who helped, if there is none).");
        NightHelp x = with(VILLAGE, "10 03 00");
        due(x, 2, 1, 2, 2, 0, 0, 1, 1, -1, 0, 12);
        of(x, 1, 0, 1);
        x = with(VILLAGE, "00 03 10");
        due(x, 2, 1, 2, 2, 0, 0, 1, 1, -1, 0, 12);
        of(x, 1, 0, 1);
        // the first of two others
        x = with(VILLAGE + "person pd 9 can dig 1;", "10 03 00 00");
        due(x, 2, 1, 2, 2, 0, 0, 1, 1);
        of(x, 1, 0, 1, 0);
        // not the needy one, not one who can't
        x = with(VILLAGE.replace("needs dig", "can dig 1 needs dig").replace("pc 9 can dig 5", "pc 9")
            + "person pd 9 can dig 1;", "10 03 00 00");
        due(x, 2, 1, 2, 2, 0, 0, 1, 1);
        of(x, 1, 0, 0, 1);
        // none: who helped
        x = with(VILLAGE.replace("needs dig", "can dig 1 needs dig").replace("pc 9 can dig 5", "pc 9"), "10 03 00");
        due(x, 2, 1, 2, 2, 0, 0, 1, 0);
        of(x, 2, 0, 0);
    }

    // ---- the RUN

    private static void years() {
        Due.says("A RUN of Y YEARS (1 to 60), without bonds at first, by a seed x:");
        NightHelp x = with(VILLAGE, "10 00 00");
        for (int years = 1; years <= 60; years++) {
            Due.same("run(" + years + ")", x.run(years, 1), years);
        }
        int[] not = {0, 61, -1, 62, Integer.MAX_VALUE, Integer.MIN_VALUE};
        for (int years : not) {
            Due.same("run(" + years + ")", x.run(years, 1), -1);
            Due.same("the latest stays", x.runBy(0), 60);
        }
    }

    private static void withoutBonds() {
        Due.says("without bonds at first,");
        NightHelp x = with(VILLAGE.replace("binds 1", "binds 9"), "10 03 00");
        for (int i = 0; i < 3; i++) {
            due(x, 1, 1, 1, 1, 0, 0, 1, 1, -1, 0, 7);
            of(x, 1, 0, 0);
        }
        Due.book(x, "pa helps pb dig;pb thanks pc dig;");
        Due.same("pc is bound by the BOOK", x.bound(2, 1, 0), 9);
        due(x, 1, 1, 1, 1, 0, 0, 1, 1, -1, 0, 7);
        of(x, 1, 0, 0);
        // the bonds of the RUN before would be due from the second YEAR on
        due(x, 2, 1, 2, 2, 0, 0, 1, 1, -1, 0, 12);
        x.ways(1, 0, 0);
        due(x, 10, 1, 10, 10, 0, 0, 0, 0, -1, 0, 70);
        of(x, 10, 0, 0);
        Due.same("the BOOK's bond stays", x.bound(2, 1, 0), 9);
        Due.same("and no other comes", x.came(0, 3), 0);
    }

    /** The document's draws, in wider numbers. */
    private static int[] drawn(int seed, int many) {
        int[] draws = new int[many];
        long x = seed;
        for (int i = 0; i < many; i++) {
            x = (x * 1103515245L + 12345L) & 0xffffffffL;
            draws[i] = (int) (x / 256 % 10);
        }
        return draws;
    }

    private static void draws() {
        Due.says("for each draw of n x becomes x * 1103515245 + 12345 (an int, wrapping), the draw is (x >>> 8) % n.");
        Due.same("the first draw of seed 1", drawn(1, 1)[0], 4);
        for (int sight = 1; sight <= 10; sight++) {
            NightHelp x = with(VILLAGE + "sees pb pa " + sight + ";", "20 00 00");
            for (int seed : SEEDS) {
                int found = 0;
                for (int draw : drawn(seed, 60)) {
                    found += draw < sight ? 1 : 0;
                }
                due(x, 60, seed, 60, 0, 60, found);
                due(x, 1, seed, 1, 0, 1, drawn(seed, 1)[0] < sight ? 1 : 0);
            }
        }
    }

    private static void needByNeed() {
        Due.says("YEAR by YEAR NEED by NEED:");
        String village = "help dig 10 4;help mend 9 1;person pa 9 can dig 3;person pb 9 can mend 3;"
            + "person pc 0 needs mend needs dig;sees pc pa 3;sees pc pb 7;";
        NightHelp x = with(village, "20 20 00");
        for (int seed : SEEDS) {
            int found = 0;
            int[] draws = drawn(seed, 40);
            for (int year = 0; year < 20; year++) {
                found += draws[2 * year] < 7 ? 1 : 0;
                found += draws[2 * year + 1] < 3 ? 1 : 0;
            }
            due(x, 20, seed, 40, 0, 40, found);
        }
        Due.same("all NEEDS of all YEARS", with(full(), "10 10 10 10 10 10 10 10").run(60, 1), 48 * 60);
    }

    private static String full() {
        StringBuilder text = new StringBuilder();
        for (char k = 'a'; k <= 'f'; k++) {
            text.append("help ").append(k).append(" 9 9;");
        }
        for (char p = 'p'; p <= 'w'; p++) {
            text.append("person ").append(p).append(" 1");
            for (char k = 'a'; k <= 'f'; k++) {
                text.append(" needs ").append(k).append(p < 'r' ? " can " + k + " 1" : "");
            }
            text.append(';');
        }
        return text.toString();
    }

    private static void boundFirst() {
        Due.says("those who are bound to it, by their numbers: the first does it by day (all bonds to it are kept then);");
        NightHelp x = with(VILLAGE.replace("binds 1", "binds 9"), "10 03 00");
        due(x, 10, 1, 10, 10, 0, 0, 1, 1, -1, 0, 7 + 9 * 5);
        of(x, 1, 0, 9);
        // by day, whatever the way of the one bound
        x = with(VILLAGE.replace("binds 1", "binds 9"), "10 03 20");
        due(x, 10, 1, 10, 10, 0, 0, 1, 1, -1, 0, 7 + 9 * 5);
        // bound to that NEED alone
        x = with(VILLAGE + "person pd 0 needs dig;", "10 03 00 00");
        due(x, 2, 1, 4, 4, 0, 0, 1, 1, -1, 0, 7 + 7 + 5 + 7);
        of(x, 3, 0, 1, 0);
    }

    private static void firstWhoCan() {
        Due.says("nobody: of those who can (not the needy one), by numbers, the first whose way is not none");
        NightHelp x = with(VILLAGE, "10 00 20");
        due(x, 3, 1, 3, 3, 0);
        of(x, 3, 0, 0);
        x = with(VILLAGE, "00 00 20");
        due(x, 3, 1, 3, 0, 3);
        of(x, 0, 0, 3);
        x = with(VILLAGE.replace("needs dig", "needs dig can dig 1"), "00 10 00");
        due(x, 3, 1, 0, 0, 0, 0, 0, 0, -1, 3, 0);
        x = with(VILLAGE.replace("pa 9 can dig 3", "pa 9"), "10 00 10");
        due(x, 3, 1, 3, 3, 0);
        of(x, 0, 0, 3);
        x = with(VILLAGE, "40 00 10");
        due(x, 3, 1, 3, 3, 0);
        of(x, 0, 0, 3);
        x = with(VILLAGE, "30 00 10");
        due(x, 3, 1, 3, 3, 0);
        of(x, 0, 0, 3);
    }

    /** By PARTS of 5217031 half a million is by night with T of 1 (and of 21), a million with T of 1 and 11. */
    private static void yearsLeft() {
        Due.says("(T is the YEARS left, this one too, 20 at most).");
        String village = "help a 15 0;person h 1 can a 1;person p 1 needs a;person q 1;person r 1;person s 1;person t 1;"
            + "person u 1;person v 1;friend h p 1;sees p h 1;sees q h 1;sees r h 1;sees s h 1;sees t h 1;sees u h 1;"
            + "sees v h 1;";
        for (int years = 1; years <= 60; years += years < 24 ? 1 : 12) {
            due(with(village, "30"), years, 1, years, years - 1, 1);
        }
        // by 5 millions a YEAR it is by night with each odd T, so that 20 is told from 19 as from 21
        for (int years = 1; years <= 60; years += years < 24 ? 1 : 12) {
            int odd = (Math.min(years, 20) + 1) / 2;
            due(with(village.replace("a 15 0", "a 60 0"), "30"), years, 1, years, years - odd, odd);
        }
        String twice = village.replace("a 15 0", "a 20 0");
        for (int years = 1; years <= 60; years += years < 24 ? 1 : 12) {
            due(with(twice, "30"), years, 1, years, years - (years > 10 ? 2 : 1), years > 10 ? 2 : 1);
        }
    }

    // ---- by night

    private static void allWhoSee() {
        Due.says("By night: for each other PERSON by numbers who sees the helper a draw of 10: found, if one is below N");
        String village = VILLAGE + "person pd 1;person pe 1;sees pe pa 2;sees pb pa 1;sees pd pa 4;sees pa pd 9;";
        NightHelp x = with(village, "20 00 00 00 00");
        int[] sights = {1, 4, 2};
        for (int seed : SEEDS) {
            int[] draws = drawn(seed, 60);
            int found = 0;
            for (int year = 0; year < 20; year++) {
                boolean seen = false;
                for (int i = 0; i < 3; i++) {
                    seen |= draws[3 * year + i] < sights[i];
                }
                found += seen ? 1 : 0;
            }
            due(x, 20, seed, 20, 0, 20, found);
        }
        // nobody sees: no draw, never found
        due(with(VILLAGE + "sees pa pb 10;sees pa pc 10;", "20 00 00"), 60, 1, 60, 0, 60, 0);
        due(with(VILLAGE + "sees pb pa 10;", "20 00 00"), 60, 1, 60, 0, 60, 60);
    }

    private static void pairFound() {
        Due.says("(of PAIR: both must be found, the first one's draws ahead).");
        NightHelp x = with(VILLAGE + "sees pb pa 6;sees pc pa 2;sees pa pc 4;sees pb pc 5;", "40 00 40");
        int[] sights = {6, 2, 4, 5};
        for (int seed : SEEDS) {
            int[] draws = drawn(seed, 80);
            int found = 0;
            for (int year = 0; year < 20; year++) {
                boolean first = draws[4 * year] < sights[0] || draws[4 * year + 1] < sights[1];
                boolean second = draws[4 * year + 2] < sights[2] || draws[4 * year + 3] < sights[3];
                found += first && second ? 1 : 0;
            }
            due(x, 20, seed, 20, 0, 20, found);
        }
        due(with(VILLAGE + "sees pb pa 10;", "40 00 40"), 20, 1, 20, 0, 20, 0);
        due(with(VILLAGE + "sees pb pc 10;", "40 00 40"), 20, 1, 20, 0, 20, 0);
        due(with(VILLAGE + "sees pb pc 10;sees pb pa 10;", "40 00 40"), 20, 1, 20, 0, 20, 20);
    }

    // ---- thanks

    private static void foundAndThanked() {
        Due.says("By day by who was not bound, or found: thanks by the way of the needy one (of PAIR to the first one):");
        due(with(VILLAGE, "20 01 00"), 9, 1, 9, 0, 9, 0, 0, 0, -1, 0, 27);
        due(with(VILLAGE + "sees pb pa 10;", "20 01 00"), 2, 1, 2, 1, 1, 1, 1, 0, -1, 0, 10);
        NightHelp x = with(VILLAGE + "sees pb pa 10;sees pb pc 10;", "40 01 40");
        due(x, 2, 1, 2, 1, 1, 1, 1, 0, -1, 0, 1 + 7);
        of(x, 2, 0, 1);
        x = with(VILLAGE + "sees pb pa 10;", "40 01 40");
        due(x, 2, 1, 2, 0, 2, 0, 0, 0, -1, 0, 2);
        // by way 2 it is the first of the PAIR who would do none, by way 3 the first other one is the second
        x = with(VILLAGE + "sees pb pa 10;sees pb pc 10;friend pc pb 10;", "40 02 40");
        due(x, 2, 1, 2, 1, 1, 1, 1, 0, -1);
        x = with(VILLAGE + "sees pb pa 10;sees pb pc 10;friend pa pb 10;", "40 02 40");
        due(x, 2, 1, 2, 0, 2, 2, 0, 0, -1);
        x = with(VILLAGE + "sees pb pa 10;sees pb pc 10;", "40 03 40");
        due(x, 2, 1, 2, 1, 1, 1, 1);
        of(x, 1, 0, 2);
    }

    private static void boundOneNotThanked() {
        Due.says("By day by who was not bound, or found: thanks by the way of the needy one");
        for (int binds = 1; binds <= 9; binds++) {
            NightHelp x = with(VILLAGE.replace("binds 1", "binds " + binds), "10 01 00");
            due(x, 60, 1, 60, 60, 0, 0, (60 + binds) / (binds + 1), 0, -1, 0, 420);
        }
    }

    private static void fromNextYear() {
        Due.says("the one thanked is bound from the next YEAR on for 'binds' YEARS (anew, if bound already),");
        for (int binds = 1; binds <= 9; binds++) {
            NightHelp x = with(VILLAGE.replace("binds 1", "binds " + binds), "10 03 00");
            due(x, binds + 1, 1, binds + 1, binds + 1, 0, 0, 1, 1, -1);
            of(x, 1, 0, binds);
            due(x, binds + 2, 1, binds + 2, binds + 2, 0, 0, 2, 2, -1);
            of(x, 2, 0, binds);
        }
        NightHelp x = with(VILLAGE.replace("binds 1;", ""), "10 03 00");
        due(x, 5, 1, 5, 5, 0, 0, 2);
        of(x, 2, 0, 3);
    }

    private static void aboveLimit() {
        Due.says("if that is no bond above LIMIT;");
        due(with(VILLAGE.replace("pa 9", "pa 0"), "10 01 00"), 9, 1, 9, 9, 0, 0, 9, 0, 0);
        due(with(VILLAGE.replace("pa 9", "pa 1"), "10 01 00"), 9, 1, 9, 9, 0, 0, 5, 0, -1);
        NightHelp x = with(VILLAGE.replace("pc 9", "pc 0"), "10 03 00");
        due(x, 9, 1, 9, 9, 0, 0, 9);
        of(x, 9, 0, 0);
        for (int limit = 0; limit <= 6; limit++) {
            x = with(six(limit), "10 01");
            due(x, 1, 1, 6, 6, 0, 0, 6, 0, limit < 6 ? 0 : -1);
            due(x, 2, 1, 12, 12, 0, 0, 6 + 6 - limit, 0, limit < 6 ? 0 : -1);
        }
    }

    private static String six(int limit) {
        StringBuilder text = new StringBuilder();
        StringBuilder can = new StringBuilder();
        for (char k = 'a'; k <= 'f'; k++) {
            text.append("help ").append(k).append(" 9 9;");
            can.append(" can ").append(k).append(" 1");
        }
        String needs = can.toString().replace("can", "needs").replace(" 1", "");
        return text + "person pa " + limit + can + ";person pb 0" + needs + ";binds 1;";
    }

    /** In full() p and q can all: NEED 47 is the last one's last. */
    private static void lastOfAll() {
        Due.says("6 HELPS, 8 PERSONS at most, numbered from 0 each.");
        String village = full().replace("person p 1", "person p 9").replace("person w 1", "person w 9") + "binds 1;";
        NightHelp x = with(village, "10 00 00 00 00 00 00 01");
        due(x, 2, 1, 84, 84, 0, 0, 6, 0, -1, 12);
        of(x, 84, 0, 0, 0, 0, 0, 0, 0);
        x = with(village, "20 00 00 00 00 00 00 03");
        due(x, 2, 1, 84, 0, 84, 0, 0, 0, -1, 12);
        // who is the last one can, and is bound to the last but one
        String last = "help a 9 9;help b 9 9;help c 9 9;help d 9 9;help e 9 9;help f 9 9;person p 1;person q 1;person r 1;"
            + "person s 1;person t 1;person u 1;person v 1 needs e needs f;person w 9 can e 1 can f 2;binds 1;";
        x = with(last, "00 00 00 00 00 00 01 10");
        due(x, 2, 1, 4, 4, 0, 0, 2, 0, -1, 0, 2 * (18 - 3));
        of(x, 0, 0, 0, 0, 0, 0, 0, 4);
        x = with(last + "friend w v 10;", "00 00 00 00 00 00 02 30");
        due(x, 2, 1, 4, 4, 0, 0, 0, 0, -1, 0, 2 * (18 - 3));
        x = with(last.replace("person q 1", "person q 1 can e 3"), "00 40 00 00 00 00 00 40");
        due(x, 1, 1, 1, 0, 1, 0, 0, 0, -1, 1, 9 - 2 - 5 - 1 - 5);
        of(x, 0, 1, 0, 0, 0, 0, 0, 1);
    }

    private static void limitTogether() {
        Due.says("(all that hold in the YEAR or a later one together)");
        // in YEAR 1 the bond to dig is kept, and holds yet when pa is thanked for mending
        String two = "help dig 10 4;help mend 9 1;person pa 1 can dig 1 can mend 1;person pb 0 needs dig needs mend;";
        NightHelp x = with(two + "binds 1;", "10 01");
        due(x, 1, 1, 2, 2, 0, 0, 2, 0, 0);
        due(x, 2, 1, 4, 4, 0, 0, 3, 0, 0);
        due(x, 3, 1, 6, 6, 0, 0, 5, 0, 0);
        due(with(two.replace("pa 1", "pa 2") + "binds 1;", "10 01"), 3, 1, 6, 6, 0, 0, 4, 0, -1);
    }

    private static void stand() {
        Due.says("STAND: the first YEAR in which one would have been above (0 the first YEAR).");
        due(with(VILLAGE.replace("pa 9", "pa 0"), "10 01 00"), 1, 1, 1, 1, 0, 0, 1, 0, 0);
        due(with(VILLAGE, "10 01 00"), 60, 1, 60, 60, 0, 0, 30, 0, -1);
        for (int sight = 1; sight <= 9; sight++) {
            NightHelp x = with(VILLAGE.replace("pa 9", "pa 0") + "sees pb pa " + sight + ";", "20 01 00");
            for (int seed : SEEDS) {
                int[] draws = drawn(seed, 60);
                int first = -1;
                for (int year = 59; year >= 0; year--) {
                    first = draws[year] < sight ? year : first;
                }
                due(x, 60, seed, 60, 0, 60);
                Due.same("STAND of seed " + seed + " by " + sight, x.runBy(5), first);
                if (first > 0) {
                    Due.same("up to the YEAR ahead of it", x.run(first, seed), first);
                    Due.same("no STAND yet", x.runBy(5), -1);
                }
                if (first >= 0) {
                    Due.same("with that YEAR as the last", x.run(first + 1, seed), first + 1);
                    Due.same("STAND in the last YEAR", x.runBy(5), first);
                }
            }
        }
    }
}
