/** Promises 17 to 19: one's best help from the last year back, and how many are willing. */
final class BestTest {
    private static final String VILLAGE = "help dig 10 4;help mend 10 0;person pa 1 can dig 3 can mend 3;"
        + "person pb 1 needs dig needs mend can dig 1;person pc 1 can dig 20 can mend 5;"
        + "friend pa pb 5;friend pc pb 5;sees pb pa 5;binds 2;out 6;gift 4;";

    private BestTest() {
    }

    public static void main(String[] args) {
        byDay();
        byNight();
        leaving();
        gifts();
        cut();
        notAsTold();
        willing();
        Due.finish();
    }

    private static void due(NightHelp x, int h, int n, int t, int b, int law, long value, int act) {
        String call = "(" + h + ", " + n + ", " + t + ", " + b + ", " + law + ")";
        Due.same("best" + call, x.best(h, n, t, b, law), value);
        Due.same("does" + call, x.does(h, n, t, b, law), act);
    }

    private static void byDay() {
        NightHelp x = Due.of(VILLAGE);
        due(x, 0, 0, 0, 0, 0, 0, 0);
        due(x, 0, 0, 0, 2, 0, 0, 0);
        due(x, 0, 0, 1, 0, 0, 2000000, 2);
        due(x, 0, 0, 1, 0, 1, 2000000, 2);
        due(x, 0, 0, 2, 0, 0, 4000000, 2);
        due(x, 0, 0, 20, 0, 0, 40000000, 2);
        due(x, 0, 0, 20, 2, 0, 40000000, 2);
        due(x, 2, 0, 20, 0, 0, 0, 0);
    }

    /** Where hiding costs nothing and thanks are nothing, night is as good as day and goes ahead. */
    private static void byNight() {
        NightHelp x = Due.of(VILLAGE);
        due(x, 0, 1, 1, 0, 1, 2000000, 1);
        due(x, 0, 1, 2, 0, 1, 4000000, 1);
        due(x, 2, 1, 1, 0, 1, 0, 0);
        due(x, 0, 1, 1, 0, 2, 6000000, 2);
    }

    private static void leaving() {
        NightHelp x = Due.of(VILLAGE);
        due(x, 2, 0, 1, 1, 0, -6000000, 3);
        due(x, 2, 0, 1, 2, 1, -6000000, 3);
        due(x, 2, 0, 5, 2, 0, -6000000, 3);
        Due.village(x, VILLAGE.replace("out 6", "out 15"));
        due(x, 2, 0, 1, 1, 0, -15000000, 2);
        due(x, 2, 0, 2, 2, 0, -15000000, 3);
    }

    private static void gifts() {
        NightHelp x = Due.of(VILLAGE);
        due(x, 0, 0, 1, 0, 2, 6000000, 2);
        due(x, 0, 0, 3, 0, 2, 18000000, 2);
        due(x, 2, 1, 1, 0, 2, 4000000, 2);
        due(x, 2, 1, 1, 1, 2, 0, 2);
        // by day for nothing while bound; who leaves is free for gifts
        due(x, 2, 1, 2, 1, 2, 4000000, 2);
        due(x, 2, 1, 2, 2, 2, 0, 2);
        due(x, 2, 1, 3, 2, 2, 4000000, 2);
        Due.village(x, VILLAGE.replace("out 6", "out 3"));
        due(x, 2, 1, 2, 2, 2, 1000000, 3);
        due(x, 2, 1, 3, 2, 2, 5000000, 3);
        Due.village(x, VILLAGE.replace("out 6", "out 4"));
        due(x, 2, 1, 3, 2, 2, 4000000, 2);
        Due.village(x, VILLAGE.replace("gift 4", "gift 15"));
        due(x, 2, 0, 1, 0, 2, 0, 0);
        Due.village(x, VILLAGE.replace("gift 4", "gift 16"));
        due(x, 2, 0, 1, 0, 2, 1000000, 2);
    }

    /** Seven see pa: the parts are 10^7 - 9^7, so that a part of 10^5 is cut. */
    private static void cut() {
        StringBuilder text = new StringBuilder("help dig 99 0;person pa 1 can dig 9;person pb 1 needs dig;");
        for (char c = 'c'; c <= 'h'; c++) {
            text.append("person p").append(c).append(" 1;");
        }
        for (char c = 'b'; c <= 'h'; c++) {
            text.append("sees p").append(c).append(" pa 1;");
        }
        NightHelp x = Due.of(text + "friend pa pb 1;gift 1;");
        Due.same("found", x.found(0), 5217031);
        // a year: 900000 by day and by night; a gift besides
        due(x, 0, 0, 1, 0, 1, 900000, 1);
        due(x, 0, 0, 1, 0, 2, 1900000, 2);
        // the second year by night: 900000 + 469532 (cut) + 430467 (cut), so day is better
        due(x, 0, 0, 2, 0, 1, 1800000, 2);
        // below 0: -9900000 + 5165, cut towards 0, so none is better
        Due.village(x, text + "gift 0;out 1;");
        due(x, 0, 0, 1, 1, 0, -1000000, 3);
        due(x, 0, 0, 2, 0, 0, 0, 0);
    }

    private static void notAsTold() {
        NightHelp x = Due.of(VILLAGE);
        int[][] calls = {{-1, 0, 1, 0, 0}, {3, 0, 1, 0, 0}, {0, -1, 1, 0, 0}, {0, 2, 1, 0, 0}, {0, 0, -1, 0, 0},
            {0, 0, 21, 0, 0}, {0, 0, 1, -1, 0}, {0, 0, 1, 3, 0}, {0, 0, 1, 0, -1}, {0, 0, 1, 0, 3}, {1, 0, 1, 0, 0},
            {1, 1, 1, 0, 0}, {Integer.MAX_VALUE, Integer.MIN_VALUE, 1, 0, 0}};
        for (int[] c : calls) {
            Due.none("best of what is not as told", () -> x.best(c[0], c[1], c[2], c[3], c[4]));
            Due.same("does of what is not as told", x.does(c[0], c[1], c[2], c[3], c[4]), -1);
        }
        Due.village(x, VILLAGE.replace("can dig 20", ""));
        Due.none("best of one who can't", () -> x.best(2, 0, 1, 0, 0));
        Due.same("does of one who can't", x.does(2, 0, 1, 0, 0), -1);
        Due.village(x, VILLAGE.replace("binds 2;", ""));
        due(x, 0, 0, 3, 3, 0, 6000000, 2);
        Due.none("best beyond binds", () -> x.best(0, 0, 1, 4, 0));
    }

    private static void willing() {
        NightHelp x = Due.of(VILLAGE);
        Due.same("none in no years", x.willing(0, 0, 0), 0);
        Due.same("pa", x.willing(0, 1, 0), 1);
        Due.same("pa", x.willing(0, 20, 1), 1);
        Due.same("pa by night", x.willing(1, 5, 1), 1);
        Due.same("pa and pc for a gift", x.willing(1, 5, 2), 2);
        Due.same("need -1", x.willing(-1, 1, 0), -1);
        Due.same("need 2", x.willing(2, 1, 0), -1);
        Due.same("years -1", x.willing(0, -1, 0), -1);
        Due.same("years 21", x.willing(0, 21, 0), -1);
        Due.same("law -1", x.willing(0, 1, -1), -1);
        Due.same("law 3", x.willing(0, 1, 3), -1);
    }
}
