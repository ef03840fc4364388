/** "==== 3." of the document, FOUND, PAIR and BEST: each sentence with what is allowed last and what is not first. */
final class BestEdgesTest {
    private static final String EIGHT = "person p 1;person q 1;person r 1;person s 1;person t 1;person u 1;person v 1;"
        + "person w 1;";
    /** By day ha has 2 millions a YEAR, by night 1; hb would lose 20. */
    private static final String VILLAGE = "help dig 10 1;person ha 1 can dig 3;person p 1 needs dig can dig 1;"
        + "person hb 1 can dig 20;friend ha p 5;binds 2;out 6;gift 4;";

    private BestEdgesTest() {
    }

    public static void main(String[] args) {
        found();
        sevenNumbers();
        pair();
        pairIsCut();
        helperAndNeed();
        yearsLeft();
        laws();
        noYears();
        worthFelt();
        byNight();
        underBind();
        underNothing();
        underGift();
        cutEach();
        likeOnes();
        bound();
        boundLikeOnes();
        willing();
        Due.finish();
    }

    private static void due(NightHelp x, int h, int n, int t, int b, int law, long value, int act) {
        String call = "(" + h + ", " + n + ", " + t + ", " + b + ", " + law + ")";
        Due.same("best" + call, x.best(h, n, t, b, law), value);
        Due.same("does" + call, x.does(h, n, t, b, law), act);
    }

    private static void notAsTold(NightHelp x, int h, int n, int t, int b, int law) {
        String call = "(" + h + ", " + n + ", " + t + ", " + b + ", " + law + ")";
        Due.none("best" + call, () -> x.best(h, n, t, b, law));
        Due.same("does" + call, x.does(h, n, t, b, law), -1);
    }

    // ---- FOUND and PAIR

    private static void found() {
        Due.says("each other PERSON who sees h finds it out by N tenths: PARTS of 10^7 with which somebody does:");
        Due.same("nobody sees", Due.of("person p 1;").found(0), 0);
        for (int n = 1; n <= 10; n++) {
            NightHelp x = Due.of("person p 1;person q 1;sees q p " + n + ";");
            Due.same("one sees by " + n, x.found(0), n * 1000000);
            Due.same("who sees is not seen", x.found(1), 0);
        }
        NightHelp x = Due.of(EIGHT + "sees w p 5;sees q p 5;sees p r 9;friend r p 9;");
        Due.same("two see", x.found(0), 7500000);
        Due.same("p sees", x.found(2), 9000000);
        Due.same("nobody sees the last one", x.found(7), 0);
    }

    private static void sevenNumbers() {
        Due.says("10^7 less the product of seven numbers, 10 less N for each who sees h, 10 for all others.");
        NightHelp x = Due.of(EIGHT + seenBy("p", 1) + seenBy("w", 9) + seenBy("s", 10));
        Due.same("seven by 1", x.found(0), 10000000 - 9 * 9 * 9 * 9 * 9 * 9 * 9);
        Due.same("seven by 9", x.found(7), 10000000 - 1);
        Due.same("seven by 10", x.found(3), 10000000);
        x = Due.of(EIGHT + seenBy("q", 1).replace("sees w q 1", "sees w q 10"));
        Due.same("one of them by 10", x.found(1), 10000000);
        x = Due.of(EIGHT + "sees q p 1;sees r p 2;sees s p 3;sees t p 4;sees u p 5;sees v p 6;sees w p 7;");
        Due.same("seven unlike", x.found(0), 10000000 - 9 * 8 * 7 * 6 * 5 * 4 * 3);
    }

    private static String seenBy(String p, int n) {
        StringBuilder text = new StringBuilder();
        for (char q = 'p'; q <= 'w'; q++) {
            text.append(p.charAt(0) == q ? "" : "sees " + q + " " + p + " " + n + ";");
        }
        return text.toString();
    }

    private static void pair() {
        Due.says("PAIR of two: PARTS of the one times those of the other by 10^7, cut.");
        NightHelp x = Due.of("person p 1;person q 1;person r 1;sees p q 10;sees q p 10;sees q r 1;");
        Due.same("both wholly", x.pair(0, 1), 10000000);
        Due.same("one wholly", x.pair(0, 2), 1000000);
        x = Due.of("person p 1;person q 1;sees p q 10;");
        Due.same("one not at all", x.pair(0, 1), 0);
        Due.same("the other way", x.pair(1, 0), 0);
    }

    private static void pairIsCut() {
        Due.says("PAIR of two: PARTS of the one times those of the other by 10^7, cut.");
        NightHelp x = Due.of("person p 1;person q 1;person r 1;person s 1;person t 1;sees q p 1;sees r p 1;sees s p 1;"
            + "sees t p 1;sees p q 9;sees r q 1;sees s q 1;sees t q 1;");
        Due.same("p", x.found(0), 3439000);
        Due.same("q", x.found(1), 9271000);
        // 3188296.9
        Due.same("cut", x.pair(0, 1), 3188296);
        Due.same("cut, the other way", x.pair(1, 0), 3188296);
    }

    // ---- BEST: what it is asked with

    private static void helperAndNeed() {
        Due.says("BEST of a helper h (not p) for a NEED (HELP k of p, whom h can help)");
        NightHelp x = Due.of(VILLAGE);
        due(x, 0, 0, 1, 0, 0, 2000000, 2);
        due(x, 2, 0, 1, 0, 0, 0, 0);
        notAsTold(x, 1, 0, 1, 0, 0);
        notAsTold(x, 3, 0, 1, 0, 0);
        notAsTold(x, -1, 0, 1, 0, 0);
        notAsTold(x, 0, 1, 1, 0, 0);
        notAsTold(x, 0, -1, 1, 0, 0);
        notAsTold(x, 0, Integer.MAX_VALUE, 1, 0, 0);
        notAsTold(x, Integer.MIN_VALUE, 0, 1, 0, 0);
        NightHelp y = Due.of("help a 9 1;help b 9 1;person h 1 can b 1;person p 1 needs a needs b;friend h p 5;");
        notAsTold(y, 0, 0, 1, 0, 0);
        due(y, 0, 1, 1, 0, 0, 3500000, 2);
    }

    private static void yearsLeft() {
        Due.says("with T YEARS (0 to 20) left, under a LAW:");
        NightHelp x = Due.of(VILLAGE);
        for (int t = 0; t <= 20; t++) {
            due(x, 0, 0, t, 0, 0, 2000000L * t, t == 0 ? 0 : 2);
        }
        notAsTold(x, 0, 0, 21, 0, 0);
        notAsTold(x, 0, 0, -1, 0, 0);
        notAsTold(x, 0, 0, Integer.MIN_VALUE, 0, 0);
        for (int b = 0; b <= 2; b++) {
            due(x, 0, 0, 20, b, 0, 40000000, 2);
        }
        notAsTold(x, 0, 0, 20, 3, 0);
        notAsTold(x, 0, 0, 20, -1, 0);
        NightHelp y = Due.of(VILLAGE.replace("binds 2;", "binds 9;"));
        due(y, 0, 0, 20, 9, 0, 40000000, 2);
        notAsTold(y, 0, 0, 20, 10, 0);
        y = Due.of(VILLAGE.replace("binds 2;", "binds 1;"));
        due(y, 0, 0, 20, 1, 0, 40000000, 2);
        notAsTold(y, 0, 0, 20, 2, 0);
    }

    private static void laws() {
        Due.says("0 BIND, 1 NOTHING, 2 GIFT:");
        NightHelp x = Due.of(VILLAGE);
        due(x, 0, 0, 3, 0, 0, 6000000, 2);
        due(x, 0, 0, 3, 0, 1, 6000000, 2);
        due(x, 0, 0, 3, 0, 2, 18000000, 2);
        notAsTold(x, 0, 0, 3, 0, 3);
        notAsTold(x, 0, 0, 3, 0, -1);
    }

    private static void noYears() {
        Due.says("V(0, b) is 0.");
        NightHelp x = Due.of(VILLAGE);
        for (int law = 0; law <= 2; law++) {
            for (int b = 0; b <= 2; b++) {
                due(x, 0, 0, 0, b, law, 0, 0);
                due(x, 2, 0, 0, b, law, 0, 0);
            }
        }
    }

    // ---- what it comes to

    private static void worthFelt() {
        Due.says("WORTH felt by h: 10^5 times N (h's friendship for p) times WORTH;");
        String most = "help a 99 0;person h 1 can a 1;person p 1 needs a;sees p h 10;gift 99;";
        due(Due.of(most + "friend h p 10;"), 0, 0, 1, 0, 1, 98000000, 1);
        due(Due.of(most + "friend h p 1;"), 0, 0, 1, 0, 1, 8900000, 1);
        due(Due.of(most), 0, 0, 1, 0, 1, 0, 0);
        due(Due.of(most + "friend p h 10;"), 0, 0, 1, 0, 1, 0, 0);
        // beyond what an int holds
        due(Due.of(most + "friend h p 10;"), 0, 0, 20, 0, 2, 3940000000L, 1);
        // 1.1 less 1
        due(Due.of("help a 11 0;person h 1 can a 1;person p 1 needs a;friend h p 1;"), 0, 0, 1, 0, 0, 100000, 1);
    }

    private static void byNight() {
        Due.says("a help by day gives that less 10^6 PAINS, by night less 10^6 HIDE besides.");
        String village = "help a 10 0;person h 1 can a 10;person p 1 needs a;friend h p 10;gift 1;";
        due(Due.of(village), 0, 0, 1, 0, 2, 1000000, 2);
        due(Due.of(village + "sees p h 10;"), 0, 0, 1, 0, 2, 1000000, 1);
        due(Due.of(village.replace("10 0", "10 1") + "sees p h 10;"), 0, 0, 1, 0, 2, 1000000, 2);
        due(Due.of(village.replace("can a 10", "can a 9")), 0, 0, 1, 0, 1, 1000000, 1);
        due(Due.of(village.replace("can a 10", "can a 11")), 0, 0, 1, 0, 1, 0, 0);
        due(Due.of(village.replace("can a 10", "can a 12")), 0, 0, 1, 0, 2, 0, 0);
    }

    private static void underBind() {
        Due.says("under BIND V(T - 1, 'binds'), under NOTHING Y, under GIFT Y and 10^6 'gift';");
        NightHelp x = Due.of(VILLAGE);
        due(x, 0, 0, 2, 0, 0, 4000000, 2);
        // who loses by it does none, and gets out when bound
        String loss = "help a 10 0;person h 1 can a 12;person p 1 needs a;friend h p 10;sees p h 10;out 1;";
        for (int t = 1; t <= 20; t++) {
            due(Due.of(loss), 0, 0, t, 0, 0, 0, 0);
        }
        due(Due.of(loss), 0, 0, 20, 3, 0, -1000000, 3);
    }

    private static void underNothing() {
        Due.says("under NOTHING Y, under GIFT Y and 10^6 'gift';");
        NightHelp x = Due.of("help a 10 0;person h 1 can a 10;person p 1 needs a;person q 1 needs a;friend h p 10;"
            + "friend h q 9;");
        due(x, 0, 0, 20, 0, 1, 0, 0);
        due(x, 0, 1, 20, 0, 1, 0, 0);
    }

    private static void underGift() {
        Due.says("under GIFT Y and 10^6 'gift';");
        String village = "help a 10 1;person h 1 can a 20;person p 1 needs a;friend h p 5;";
        due(Due.of(village + "gift 15;"), 0, 0, 7, 0, 2, 0, 0);
        due(Due.of(village + "gift 16;"), 0, 0, 7, 0, 2, 7000000, 2);
        due(Due.of(village + "gift 99;"), 0, 0, 7, 0, 2, 7 * 84000000L, 2);
        due(Due.of(village + "gift 0;"), 0, 0, 7, 0, 2, 0, 0);
        due(Due.of(village.replace("can a 20", "can a 14")), 0, 0, 7, 0, 2, 7000000, 2);
        due(Due.of(village.replace("can a 20", "can a 15")), 0, 0, 7, 0, 2, 0, 0);
        // a gift comes of thanks alone: by night of one who is not found it does not
        due(Due.of(village.replace("10 1", "10 0") + "gift 99;"), 0, 0, 1, 0, 2, 84000000, 2);
    }

    /** PARTS are 5217031: half a million by day comes even by T - 1 of 20 alone, a million by T - 1 of 10. */
    private static void cutEach() {
        Due.says("by night: that and X times PARTS FOUND by 10^7, cut, and Y times the other PARTS by 10^7, cut"
            + " (all cut towards 0;");
        String village = "help a 15 0;person h 1 can a 1;person p 1 needs a;person q 1;person r 1;person s 1;person t 1;"
            + "person u 1;person v 1;friend h p 1;sees p h 1;sees q h 1;sees r h 1;sees s h 1;sees t h 1;sees u h 1;"
            + "sees v h 1;";
        NightHelp x = Due.of(village);
        Due.same("PARTS", x.found(0), 5217031);
        NightHelp y = Due.of(village.replace("a 15 0", "a 20 0"));
        for (int t = 1; t <= 20; t++) {
            due(x, 0, 0, t, 0, 1, 500000L * t, t == 1 ? 1 : 2);
            due(x, 0, 0, t, 0, 0, 500000L * t, t == 1 ? 1 : 2);
            due(y, 0, 0, t, 0, 1, 1000000L * t, t % 10 == 1 ? 1 : 2);
            due(y, 0, 0, t, 0, 0, 1000000L * t, t % 10 == 1 ? 1 : 2);
        }
    }

    private static void likeOnes() {
        Due.says("of like ones none, then by night, then by day)");
        String village = "help a 10 0;person h 1 can a 10;person p 1 needs a;gift 0;";
        due(Due.of(village + "friend h p 10;"), 0, 0, 1, 0, 1, 0, 0);
        due(Due.of(village + "friend h p 10;"), 0, 0, 20, 0, 2, 0, 0);
        due(Due.of(village + "friend h p 10;sees p h 10;"), 0, 0, 20, 0, 0, 0, 0);
        String gain = village.replace("can a 10", "can a 9") + "friend h p 10;";
        due(Due.of(gain), 0, 0, 1, 0, 0, 1000000, 1);
        due(Due.of(gain), 0, 0, 20, 0, 1, 20000000, 1);
        due(Due.of(gain), 0, 0, 20, 0, 2, 20000000, 1);
        due(Due.of(gain.replace("gift 0", "gift 1")), 0, 0, 1, 0, 2, 2000000, 2);
        due(Due.of(gain.replace("10 0", "10 1")), 0, 0, 20, 0, 1, 20000000, 2);
        due(Due.of(gain.replace("10 0", "10 1") + "sees p h 10;"), 0, 0, 20, 0, 1, 20000000, 2);
    }

    private static void bound() {
        Due.says("b above 0: by day, not thanked, V(T - 1, b - 1), or 10^6 'out' less, V(T - 1, 0):");
        String village = "help a 10 0;person h 1 can a 15;person p 1 needs a;friend h p 10;binds 9;gift 7;";
        NightHelp x = Due.of(village + "out 20;");
        // under GIFT a free YEAR is worth 2, a bound one costs 5, getting out costs 20
        due(x, 0, 0, 1, 0, 2, 2000000, 2);
        due(x, 0, 0, 1, 1, 2, -5000000, 2);
        due(x, 0, 0, 2, 1, 2, -3000000, 2);
        due(x, 0, 0, 3, 3, 2, -15000000, 2);
        due(x, 0, 0, 4, 4, 2, -14000000, 3);
        due(x, 0, 0, 5, 4, 2, -12000000, 3);
        due(x, 0, 0, 9, 9, 2, -4000000, 3);
        due(x, 0, 0, 20, 9, 2, 18000000, 3);
        // under NOTHING a free YEAR is worth nothing
        due(x, 0, 0, 3, 3, 1, -15000000, 2);
        due(x, 0, 0, 20, 9, 1, -20000000, 3);
        due(x, 0, 0, 20, 2, 1, -10000000, 2);
        NightHelp y = Due.of(village + "out 0;");
        due(y, 0, 0, 20, 9, 2, 38000000, 3);
        due(y, 0, 0, 1, 1, 2, 0, 3);
        NightHelp z = Due.of(village + "out 999;");
        due(z, 0, 0, 20, 9, 2, -45000000 + 22000000, 2);
    }

    private static void boundLikeOnes() {
        Due.says("the greater one (of like ones the first).");
        String village = "help a 10 0;person h 1 can a 15;person p 1 needs a;friend h p 10;binds 3;";
        due(Due.of(village + "out 4;"), 0, 0, 1, 1, 1, -4000000, 3);
        due(Due.of(village + "out 5;"), 0, 0, 1, 1, 1, -5000000, 2);
        due(Due.of(village + "out 6;"), 0, 0, 1, 1, 1, -5000000, 2);
        due(Due.of(village + "out 15;"), 0, 0, 20, 3, 1, -15000000, 2);
        due(Due.of(village + "out 14;"), 0, 0, 20, 3, 1, -14000000, 3);
    }

    private static void willing() {
        Due.says("Of NEED n under a LAW with T YEARS left: how many of those who can (none bound) do not do none;");
        NightHelp x = Due.of("help a 10 0;help b 9 0;person g 1 can a 9;person h 1 can a 10;person i 1 can a 11;"
            + "person p 1 needs a can a 1 needs b;friend g p 10;friend h p 10;friend i p 10;gift 1;");
        Due.same("under BIND", x.willing(0, 1, 0), 1);
        Due.same("under NOTHING", x.willing(0, 20, 1), 1);
        Due.same("under GIFT", x.willing(0, 20, 2), 2);
        Due.same("by night", x.does(0, 0, 1, 0, 1), 1);
        Due.same("by day", x.does(1, 0, 1, 0, 2), 2);
        Due.same("nobody can", x.willing(1, 20, 2), 0);
        Due.same("T 0", x.willing(0, 0, 2), 0);
        Due.same("T 20", x.willing(0, 20, 0), 1);
        int[][] calls = {{0, 21, 0}, {0, -1, 0}, {0, 1, 3}, {0, 1, -1}, {2, 1, 0}, {-1, 1, 0}};
        for (int[] c : calls) {
            Due.same("willing(" + c[0] + ", " + c[1] + ", " + c[2] + ")", x.willing(c[0], c[1], c[2]), -1);
        }
    }
}
