/** Promises 20 to 23: ways and runs. By the seed 1 the draws of 10 are 4, 2, 6, 3. */
final class RunTest {
    private static final String VILLAGE = "help dig 10 4;person pa 1 can dig 3;person pb 0 needs dig;"
        + "person pc 2 can dig 5;binds 1;";

    private RunTest() {
    }

    public static void main(String[] args) {
        ways();
        notAsTold();
        never();
        open();
        thanksAlways();
        thanksWhenNeeded();
        thanksToOthers();
        night();
        draws();
        best();
        pairs();
        pairsByNight();
        stand();
        boundOnesGoAhead();
        latest();
        Due.finish();
    }

    /** The ways of all: two digits each, of helping and of thanking. */
    private static NightHelp with(String village, String ways) {
        NightHelp x = Due.of(village);
        for (int p = 0; 3 * p < ways.length(); p++) {
            Due.same("ways of " + p, x.ways(p, ways.charAt(3 * p) - '0', ways.charAt(3 * p + 1) - '0'), true);
        }
        return x;
    }

    private static void due(NightHelp x, int years, int seed, int helps, int... by) {
        String call = "run(" + years + ", " + seed + ")";
        Due.same(call, x.run(years, seed), helps);
        for (int what = 0; what < by.length; what++) {
            Due.same("runBy(" + what + ") of " + call, x.runBy(what), by[what]);
        }
    }

    private static void ways() {
        NightHelp x = Due.of(VILLAGE);
        Due.same("ways", x.ways(2, 4, 3), true);
        Due.same("helping", x.person(2, 3), 4);
        Due.same("thanking", x.person(2, 4), 3);
        int[][] calls = {{-1, 0, 0}, {3, 0, 0}, {2, -1, 0}, {2, 5, 0}, {2, 0, -1}, {2, 0, 4}};
        for (int[] c : calls) {
            Due.same("ways not as told", x.ways(c[0], c[1], c[2]), false);
            Due.same("helping stays", x.person(2, 3), 4);
            Due.same("thanking stays", x.person(2, 4), 3);
        }
        Due.same("others have none", x.person(0, 3) + x.person(0, 4), 0);
    }

    private static void notAsTold() {
        NightHelp x = with(VILLAGE, "10 00 00");
        Due.same("run(0)", x.run(0, 1), -1);
        Due.same("no run yet", x.runBy(0), -2);
        Due.same("no run yet", x.runOf(0), -1);
        due(x, 2, 1, 2, 2);
        Due.same("run(61)", x.run(61, 1), -1);
        Due.same("run(-1)", x.run(-1, 1), -1);
        Due.same("the run before stays", x.runBy(0), 2);
        Due.same("of pa", x.runOf(0), 2);
        Due.same("of pb", x.runOf(1), 0);
        Due.same("of 3", x.runOf(3), -1);
        Due.same("of -1", x.runOf(-1), -1);
        Due.same("by 8", x.runBy(8), -2);
        Due.same("by -1", x.runBy(-1), -2);
        Due.same("60 years", x.run(60, 1), 60);
    }

    private static void never() {
        due(with(VILLAGE, "00 01 00"), 5, 1, 0, 0, 0, 0, 0, 0, -1, 5, 0);
        due(new NightHelp(), 5, 1, 0, 0, 0, 0, 0, 0, -1, 0, 0);
        NightHelp x = with(VILLAGE, "00 10 00");
        due(x, 5, 1, 0, 0, 0, 0, 0, 0, -1, 5, 0);
        x = with(VILLAGE.replace("needs dig", "needs dig can dig 1"), "00 10 00");
        due(x, 5, 1, 0, 0, 0, 0, 0, 0, -1, 5, 0);
    }

    private static void open() {
        NightHelp x = with(VILLAGE, "10 00 10");
        due(x, 3, 1, 3, 3, 0, 0, 0, 0, -1, 0, 21);
        Due.same("pa did all", x.runOf(0), 3);
        Due.same("pc none", x.runOf(2), 0);
        x = with(VILLAGE, "00 00 10");
        due(x, 3, 1, 3, 3, 0, 0, 0, 0, -1, 0, 15);
        Due.same("pc did all", x.runOf(2), 3);
    }

    private static void thanksAlways() {
        due(with(VILLAGE, "10 01 00"), 1, 1, 1, 1, 0, 0, 1, 0, -1, 0, 7);
        due(with(VILLAGE, "10 01 00"), 2, 1, 2, 2, 0, 0, 1, 0, -1, 0, 14);
        due(with(VILLAGE, "10 01 00"), 3, 1, 3, 3, 0, 0, 2, 0, -1, 0, 21);
        due(with(VILLAGE.replace("binds 1", "binds 3"), "10 01 00"), 9, 1, 9, 9, 0, 0, 3, 0, -1, 0, 63);
    }

    private static void thanksWhenNeeded() {
        due(with(VILLAGE, "10 02 00"), 2, 1, 2, 2, 0, 0, 1, 0, -1, 0, 14);
        String friends = VILLAGE + "friend pa pb 4;";
        due(with(friends, "10 02 00"), 2, 1, 2, 2, 0, 0, 0, 0, -1, 0, 14);
        due(with(VILLAGE + "friend pa pb 3;", "10 02 00"), 2, 1, 2, 2, 0, 0, 1, 0, -1, 0, 14);
    }

    private static void thanksToOthers() {
        NightHelp x = with(VILLAGE, "10 03 00");
        due(x, 2, 1, 2, 2, 0, 0, 1, 1, -1, 0, 12);
        Due.same("pc was bound", x.runOf(2), 1);
        x = with(VILLAGE, "00 03 10");
        due(x, 2, 1, 2, 2, 0, 0, 1, 1, -1, 0, 12);
        Due.same("pa was bound", x.runOf(0), 1);
        due(with(VILLAGE.replace("can dig 5", ""), "10 03 00"), 2, 1, 2, 2, 0, 0, 1, 0, -1, 0, 14);
        due(with(VILLAGE.replace("can dig 5", "").replace("needs dig", "needs dig can dig 1"), "10 03 00"),
            2, 1, 2, 2, 0, 0, 1, 0, -1, 0, 14);
    }

    private static void night() {
        due(with(VILLAGE, "20 01 00"), 3, 1, 3, 0, 3, 0, 0, 0, -1, 0, 9);
        due(with(VILLAGE + "sees pb pa 10;", "20 00 00"), 3, 1, 3, 0, 3, 3, 0, 0, -1, 0, 9);
        due(with(VILLAGE + "sees pb pa 10;", "20 01 00"), 3, 1, 3, 1, 2, 2, 2, 0, -1, 0, 13);
        due(with(VILLAGE + "sees pa pb 10;", "20 01 00"), 3, 1, 3, 0, 3, 0, 0, 0, -1, 0, 9);
    }

    private static void draws() {
        due(with(VILLAGE + "sees pb pa 4;", "20 00 00"), 4, 1, 4, 0, 4, 2);
        due(with(VILLAGE + "sees pc pa 3;", "20 00 00"), 4, 1, 4, 0, 4, 1);
        due(with(VILLAGE + "sees pc pa 7;", "20 00 00"), 4, 1, 4, 0, 4, 4);
        // each who sees draws: 4 and 2, then 6 and 3
        due(with(VILLAGE + "sees pb pa 5;sees pc pa 1;", "20 00 00"), 2, 1, 2, 0, 2, 1);
        // pb draws ahead of pc, however they are told
        due(with(VILLAGE + "sees pc pa 3;sees pb pa 4;", "20 00 00"), 1, 1, 1, 0, 1, 1);
        due(with(VILLAGE + "sees pc pa 2;sees pb pa 5;", "20 00 00"), 1, 1, 1, 0, 1, 1);
        due(with(VILLAGE + "sees pc pa 5;sees pb pa 1;", "20 00 00"), 1, 1, 1, 0, 1, 1);
        due(with(VILLAGE + "sees pc pa 2;sees pb pa 4;", "20 00 00"), 1, 1, 1, 0, 1, 0);
    }

    private static void best() {
        // by day in all years for a friend's worth of 4, but not for one of 3
        due(with(VILLAGE + "friend pa pb 4;", "30 00 10"), 2, 1, 2, 2, 0, 0, 0, 0, -1, 0, 14);
        NightHelp x = with(VILLAGE + "friend pa pb 3;", "30 00 10");
        due(x, 2, 1, 2, 2, 0, 0, 0, 0, -1, 0, 10);
        Due.same("pc does what pa would not", x.runOf(2), 2);
        // hiding for nothing is as good as the last year's open help
        due(with(VILLAGE.replace("10 4", "10 0") + "friend pa pb 4;", "30 00 00"), 1, 1, 1, 0, 1);
    }

    private static void pairs() {
        NightHelp x = with(VILLAGE, "40 00 40");
        due(x, 1, 1, 1, 0, 1, 0, 0, 0, -1, 0, 10 - 2 - 2 - 3 - 2);
        Due.same("pa did it", x.runOf(0), 1);
        Due.same("pc did it too", x.runOf(2), 1);
        due(with(VILLAGE, "40 00 00"), 2, 1, 0, 0, 0, 0, 0, 0, -1, 2, 0);
        due(with(VILLAGE, "00 00 40"), 2, 1, 0, 0, 0, 0, 0, 0, -1, 2, 0);
        x = with(VILLAGE, "40 40 10");
        due(x, 2, 1, 2, 2, 0, 0, 0, 0, -1, 0, 10);
        x = with(VILLAGE.replace("needs dig", "needs dig can dig 1"), "40 40 10");
        due(x, 2, 1, 2, 2, 0, 0, 0, 0, -1, 0, 10);
        // the next one who can and has this way, not another one
        x = with(VILLAGE + "person pd 1 can dig 1;", "40 00 00 40");
        due(x, 1, 1, 1, 0, 1, 0, 0, 0, -1, 0, 10 - 2 - 2 - 1 - 2);
        Due.same("pd did it too", x.runOf(3), 1);
    }

    private static void pairsByNight() {
        String seen = VILLAGE + "sees pb pa 5;sees pb pc 3;";
        due(with(seen, "40 00 40"), 2, 1, 2, 0, 2, 1);
        due(with(VILLAGE + "sees pb pa 3;sees pb pc 5;", "40 00 40"), 1, 1, 1, 0, 1, 0);
        due(with(VILLAGE + "sees pb pa 10;", "40 00 40"), 1, 1, 1, 0, 1, 0);
        // each of the two sees the other: 4 and 2, then 6 and 3
        due(with(VILLAGE + "sees pa pc 4;sees pc pa 7;", "40 00 40"), 2, 1, 2, 0, 2, 2);
        due(with(VILLAGE + "sees pa pc 7;sees pc pa 4;", "40 00 40"), 1, 1, 1, 0, 1, 0);
        // both draw always: 4 is not below 4, 2 and 6 would be a pair if the second draw were not made
        due(with(VILLAGE + "sees pb pa 4;sees pb pc 7;", "40 00 40"), 2, 1, 2, 0, 2, 0);
        NightHelp x = with(seen, "40 01 40");
        due(x, 2, 1, 2, 1, 1, 1, 1, 0, -1, 0, 8);
        Due.same("pa was thanked and bound", x.runOf(0), 2);
        Due.same("pc was not", x.runOf(2), 1);
        x = with(seen, "40 03 40");
        due(x, 2, 1, 2, 1, 1, 1, 1, 0, -1, 0, 6);
        Due.same("pc was thanked, not astray", x.runOf(2), 2);
        x = with(seen + "friend pc pb 9;", "40 02 40");
        due(x, 2, 1, 2, 1, 1, 1, 1, 0, -1, 0, 8);
        due(with(seen + "friend pa pb 9;", "40 02 40"), 2, 1, 2, 0, 2, 1, 0, 0, -1, 0, 2);
    }

    private static void stand() {
        due(with(VILLAGE.replace("pa 1", "pa 0"), "10 01 00"), 3, 1, 3, 3, 0, 0, 3, 0, 0, 0, 21);
        String two = "help dig 10 4;help mend 9 1;person pa 1 can dig 1 can mend 1;person pb 0 needs dig needs mend;";
        due(with(two + "binds 1;", "10 01"), 2, 1, 4, 4, 0, 0, 3, 0, 0, 0, 34);
        due(with(two.replace("pa 1", "pa 2") + "binds 1;", "10 01"), 2, 1, 4, 4, 0, 0, 2, 0, -1, 0, 34);
        // the bond to dig holds in year 1 yet when mending is thanked for
        due(with(two + "binds 1;", "10 01"), 3, 1, 6, 6, 0, 0, 5, 0, 0);
        // pa is found by the second draw alone, so the limit is met in year 1
        due(with(VILLAGE.replace("pa 1", "pa 0") + "sees pb pa 3;", "20 01 00"), 3, 1, 3, 0, 3, 1, 1, 0, 1);
    }

    private static void boundOnesGoAhead() {
        // pc is bound by thanks astray, and does it ahead of pa, who is free
        NightHelp x = with(VILLAGE.replace("binds 1", "binds 9"), "10 03 00");
        due(x, 4, 1, 4, 4, 0, 0, 1, 1, -1, 0, 7 + 5 + 5 + 5);
        Due.same("pc thrice", x.runOf(2), 3);
        // by nine years a run of eleven has two thanks
        due(x, 11, 1, 11, 11, 0, 0, 2, 2, -1, 0, 7 + 45 + 7);
        x.run(1, 1);
        Due.same("no bonds at first", x.runOf(0), 1);
        x = with(VILLAGE.replace("binds 1", "binds 9") + "help mend 9 1;person pd 1 needs mend;", "10 01 00 01");
        due(x, 1, 1, 1, 1, 0, 0, 1, 0, -1, 1, 7);
        due(x, 1, 1, 1, 1, 0, 0, 1, 0, -1, 1, 7);
        x = with("help dig 10 4;help mend 9 1;person pa 1 can dig 1 can mend 1;person pb 0 needs dig needs mend;"
            + "sees pb pa 3;", "20 01");
        due(x, 1, 1, 2, 0, 2, 1, 1, 0, -1, 0);
        due(x, 1, 1103527590, 2, 0, 2, 1, 1, 0, -1, 0);
    }

    private static void latest() {
        NightHelp x = with(VILLAGE, "10 00 00");
        x.run(3, 1);
        Due.village(x, "person z 1;");
        Due.same("of the village then", x.runOf(2), 0);
        Due.same("of the village then", x.runOf(0), 3);
        Due.same("what it came to stays", x.runBy(7), 21);
        x.run(3, 1);
        Due.same("of the village now", x.runOf(1), -1);
        Due.same("nothing done", x.runBy(0), 0);
        Due.same("nothing to do", x.runBy(6), 0);
    }
}
