/** Promises 1 to 9, 15, 16 and 32: the tape, the village and what is told of it. */
final class VillageTest {
    static final String SMALL = "help plow 20 3;help well 9 1;person al 1 can plow 8 can well 5;"
        + "person bo 2 needs plow needs well;person cy 0 can plow 6 needs well;"
        + "friend al bo 5;friend cy al 10;sees bo al 4;sees cy al 5;sees al cy 2;binds 2;out 7;gift 4;";

    private VillageTest() {
    }

    public static void main(String[] args) {
        newObject();
        feed();
        end();
        villageLines();
        villageFaultsOfTokens();
        villageFaultsOfNumbers();
        villageFaultsOfNames();
        villageFaultsOfMany();
        villageLimit();
        faultStays();
        help();
        person();
        need();
        tie();
        found();
        pair();
        count();
        Due.finish();
    }

    private static void newObject() {
        NightHelp x = new NightHelp();
        Due.same("NONE", NightHelp.NONE, -1);
        int[] counts = {0, 0, 0, 0, 3, 50, 10, 0};
        for (int what = 0; what < counts.length; what++) {
            Due.same("new count " + what, x.count(what), counts[what]);
        }
        Due.same("new fault", x.fault(), 0);
        Due.same("new said", x.said(), -1);
        Due.same("new wrong", x.wrong(0), -1);
        Due.same("new runBy", x.runBy(0), -2);
        Due.same("new runOf", x.runOf(0), -1);
        Due.same("new leftBy", x.leftBy(0), -1);
        Due.same("new thinkOf", x.thinkOf(0, 1), -1);
        Due.same("new restore", x.restore(0), false);
        Due.same("new restore", x.restore(1), false);
        for (int what = 0; what < 5; what++) {
            Due.same("new judge " + what, x.judge(what), 0);
        }
        Due.none("new help", () -> x.help(0, 0));
        Due.none("new person", () -> x.person(0, 0));
        Due.none("new came", () -> x.came(0, 0));
        Due.same("new book", x.book(), 0);
        Due.same("new sentence", x.sentence(), -1);
        Due.same("new sentence's fault", x.fault(), 1);
        Due.same("new village", x.village(), 0);
    }

    private static void feed() {
        NightHelp x = new NightHelp();
        int w = 0x68656c70; // help
        Due.same("feed", x.feed(w, 0x20612031, 0x20313b20, 0x20202020, 0x20202020), 20);
        Due.same("its village", x.village(), 1);
        Due.same("its worth", x.help(0, 0), 1);
        for (int i = 1; i <= 47; i++) {
            Due.same("feed " + i, x.feed(-1, -1, -1, -1, -1), 20 * i);
        }
        Due.same("feed beyond 940", x.feed(1, 1, 1, 1, 1), -1);
        Due.same("tape as it was", x.count(7), 940);
        Due.same("end 921", x.end(921), true);
        Due.same("feed to 941", x.feed(1, 1, 1, 1, 1), -1);
        Due.same("tape as it was", x.count(7), 921);
        Due.same("end 920", x.end(920), true);
        Due.same("feed to 940", x.feed(1, 1, 1, 1, 1), 940);
        Due.same("bytes above 127 are no token", x.village(), -1);
        Due.same("their fault", x.fault(), 1);
    }

    private static void end() {
        NightHelp x = new NightHelp();
        Due.same("end 0 of none", x.end(0), true);
        Due.same("end 1 of none", x.end(1), false);
        Due.same("end -1", x.end(-1), false);
        Due.same("end least", x.end(Integer.MIN_VALUE), false);
        x.feed(0x6f757420, 0x313b6f75, 0x7420323b, 0x20202020, 0x20202020);
        Due.same("end 21", x.end(21), false);
        Due.same("tape as it was", x.count(7), 20);
        Due.same("end 6", x.end(6), true);
        Due.same("tape", x.count(7), 6);
        Due.same("end 7 of 6", x.end(7), false);
        Due.same("cut village", x.village(), 1);
        Due.same("cut out", x.count(5), 1);
        Due.same("tape is empty then", x.count(7), 0);
    }

    private static void villageLines() {
        Due.same("small", Due.village(new NightHelp(), SMALL), 13);
        NightHelp x = new NightHelp();
        Due.same("no blanks", Due.village(x, "help a 1 0;person b 9 can a 99 needs a;out 0;gift 0;binds 1;"), 5);
        Due.same("no blanks at all", Due.village(x, "help\na\n1\n0\n;\n"), 1);
        Due.same("numbers with noughts", Due.village(x, " help a 099 00 ; "), 1);
        Due.same("worth", x.help(0, 0), 99);
        Due.same("empty", Due.village(x, ""), 0);
        Due.same("blanks alone", Due.village(x, " \n "), 0);
        Due.same("no help then", x.count(0), 0);
        Due.same("names of six letters", Due.village(x, "help abcdef 1 1;person fedcba 1 can abcdef 1;"), 2);
        NightHelp y = Due.of(SMALL);
        Due.book(y, "al helps bo plow;");
        Due.sentence(y, "bound");
        y.ways(0, 4, 3);
        Due.same("faulty", Due.village(y, "out 5;out 6;"), -7);
        Due.same("village stays", y.count(1), 3);
        Due.same("book stays", y.count(3), 1);
        Due.same("sentence stays", y.said(), 0);
        Due.same("ways stay", y.person(0, 3), 4);
        Due.same("out stays", y.count(5), 7);
        Due.same("again", Due.village(y, SMALL), 13);
        Due.same("no book", y.count(3), 0);
        Due.same("nothing done", y.judge(4), 0);
        Due.same("no sentence", y.said(), -1);
        Due.same("helping 0", y.person(0, 3), 0);
        Due.same("thanking 0", y.person(0, 4), 0);
    }

    private static void villageFaultsOfTokens() {
        Due.villageFault(1, "^a 1 1;");
        Due.villageFault(1, "^1;");
        Due.villageFault(1, "^;");
        Due.villageFault(1, "^helps a 1 1;");
        Due.villageFault(1, "^bound;");
        Due.villageFault(1, "out 1;^.");
        Due.villageFault(1, "help ^a1 1 1;");
        Due.villageFault(1, "help ^1a 1 1;");
        Due.villageFault(1, "help ^abcdefg 1 1;");
        Due.villageFault(1, "help ^A 1 1;");
        Due.villageFault(1, "out ^1000;");
        Due.villageFault(1, "out ^0001;");
        Due.villageFault(1, "out ^-1;");
        Due.villageFault(1, "help a ^b 1;");
        Due.villageFault(1, "help a 1^;");
        Due.villageFault(1, "help a 1 1 ^1;");
        Due.villageFault(1, "help a 1 1^\t;");
        Due.villageFault(1, "help a 1 1^");
        Due.villageFault(1, "help a 1 1;person b 9 can a ^99needs a;");
        Due.villageFault(1, "^out1;");
        Due.villageFault(1, "help a 1 1  ^");
        Due.villageFault(1, "help^");
        Due.villageFault(1, "person p 1 ^1;");
        Due.villageFault(1, "person p 1 can ^;");
        Due.villageFault(1, "help a 1 1;person p 1 can a ^;");
        Due.villageFault(1, "help a 1 1;person p 1 can a 3 ^a;");
        Due.villageFault(1, "help a 1 1;person p 1 ^helps a;");
        Due.villageFault(1, "help a 1 1;person p 1 needs a ^3;");
        Due.villageFault(1, "person p 1;person q 1;friend p ^1;");
        Due.villageFault(1, "person p 1;person q 1;friend p q ^;");
        Due.villageFault(1, "out 1;^(");
        String[] words = {"help", "person", "can", "needs", "friend", "sees", "binds", "out", "gift", "year", "helps",
            "hidden", "thanks", "leaves", "or", "and", "not", "bound", "free", "gained", "felt", "helped", "bonds",
            "broken"};
        for (String word : words) {
            Due.villageFault(1, "help ^" + word + " 1 1;");
            Due.villageFault(1, "person ^" + word + " 1;");
            Due.villageFault(1, "person p 1;person q 1;friend ^" + word + " q 1;");
            Due.villageFault(1, "person p 1 needs ^" + word + ";");
        }
    }

    private static void villageFaultsOfNumbers() {
        Due.villageFault(2, "help a ^0 1;");
        Due.villageFault(2, "help a ^100 1;");
        Due.villageFault(2, "help a 1 ^100;");
        Due.villageFault(2, "person p ^10;");
        Due.villageFault(2, "help a 1 1;person p 0 can a ^0;");
        Due.villageFault(2, "help a 1 1;person p 0 can a ^100;");
        Due.villageFault(2, "person p 1;person q 1;friend p q ^0;");
        Due.villageFault(2, "person p 1;person q 1;friend p q ^11;");
        Due.villageFault(2, "person p 1;person q 1;sees p q ^0;");
        Due.villageFault(2, "person p 1;person q 1;sees p q ^11;");
        Due.villageFault(2, "binds ^0;");
        Due.villageFault(2, "binds ^10;");
        Due.villageFault(2, "gift ^100;");
        NightHelp x = new NightHelp();
        Due.same("most of all", Due.village(x, "help a 99 99;person p 9 can a 99;person q 9;friend p q 10;sees q p 10;"
            + "binds 9;out 999;gift 99;"), 8);
        Due.same("least of all", Due.village(x, "help a 1 0;person p 0 can a 1;person q 0;friend p q 1;sees q p 1;"
            + "binds 1;out 0;gift 0;"), 8);
    }

    private static void villageFaultsOfNames() {
        Due.villageFault(3, "help a 1 1;help ^a 1 1;");
        Due.villageFault(3, "help a 1 1;person ^a 1;");
        Due.villageFault(3, "person a 1;help ^a 1 1;");
        Due.villageFault(3, "person a 1;person ^a 1;");
        Due.villageFault(3, "help a 1 1;help ^a");
        Due.villageFault(3, "person p 1 can ^z 1;");
        Due.villageFault(3, "person p 1 needs ^z;");
        Due.villageFault(3, "person p 1 can ^p 1;");
        Due.villageFault(3, "person p 1 can ^z 1;help z 1 1;");
        Due.villageFault(3, "help a 1 1;person p 1 can a 5 can ^a 6;");
        Due.villageFault(3, "help a 1 1;person p 1 needs a can a 5 needs ^a;");
        Due.villageFault(3, "help a 1 1;person p 1;friend p ^a 1;");
        Due.villageFault(3, "help a 1 1;person p 1;friend ^a p 1;");
        Due.villageFault(3, "person p 1;sees ^q p 1;person q 1;");
        Due.villageFault(3, "person p 1;friend p ^p 1;");
        Due.villageFault(3, "person p 1;person q 1;friend p q 1;friend q p 1;friend p ^q 2;");
        Due.villageFault(3, "person p 1;person q 1;sees p q 1;friend p q 1;sees q p 1;sees q ^p 2;");
        Due.villageFault(3, "binds 1;^binds 1;");
        Due.villageFault(3, "binds 3;^binds 3;");
        Due.villageFault(3, "out 1;^out 1;");
        Due.villageFault(3, "gift 1;out 1;^gift 1;");
    }

    private static void villageFaultsOfMany() {
        String six = "help a 1 1;help b 1 1;help c 1 1;help d 1 1;help e 1 1;help f 1 1;";
        Due.same("six helps", Due.village(new NightHelp(), six), 6);
        Due.villageFault(4, six + "^help g 1 1;");
        Due.villageFault(4, six + "^help a 1 1;");
        Due.villageFault(4, six + "^help");
        String eight = "person a 1;person b 1;person c 1;person d 1;person e 1;person f 1;person g 1;person h 1;";
        Due.same("eight persons", Due.village(new NightHelp(), eight), 8);
        Due.villageFault(4, eight + "^person i 1;");
        NightHelp x = Due.of(six.replace("help ", "help a") + eight);
        Due.same("helps beside persons", x.count(0) * 10 + x.count(1), 68);
    }

    private static void villageLimit() {
        NightHelp x = new NightHelp();
        Due.same("900 bytes", Due.village(x, Due.blanks("out 1;", 900)), 1);
        Due.villageFault(1, Due.blanks("out 1;", 900) + "^ ");
        Due.villageFault(1, Due.blanks("out 1;", 900) + "^gift 1;");
        Due.villageFault(1, Due.blanks("out 1", 900) + "^");
        Due.villageFault(1, Due.blanks("out 1", 899) + " ^ ");
        Due.villageFault(2, Due.blanks("binds ^0;", 930));
        Due.villageFault(1, Due.blanks("out 1;", 897) + "gif" + "^t 1;");
        Due.villageFault(1, Due.blanks("out 1;", 897) + "^gifts 1;");
        Due.villageFault(2, Due.blanks("binds", 899) + "^123;");
        Due.villageFault(1, Due.blanks("binds", 899) + "1^;");
        Due.villageFault(1, Due.blanks("binds", 899) + "^1234;");
    }

    private static void faultStays() {
        NightHelp x = Due.of("out 1;");
        Due.same("no fault", x.fault(), 0);
        Due.village(x, "out");
        Due.same("fault 1", x.fault(), 1);
        x.count(0);
        x.end(0);
        Due.same("fault still 1", x.fault(), 1);
        Due.book(x, "year 100;");
        Due.same("fault 2 of the book", x.fault(), 2);
        x.image(0);
        Due.sentence(x, "free");
        Due.same("no fault of the sentence", x.fault(), 0);
        Due.village(x, "person p 1;person p 1;");
        Due.same("fault 3", x.fault(), 3);
        x.restore(0);
        x.said();
        Due.same("fault is not restored", x.fault(), 3);
        Due.book(x, "");
        Due.same("no fault of the book", x.fault(), 0);
    }

    private static void help() {
        NightHelp x = Due.of(SMALL);
        Due.same("worth", x.help(0, 0), 20);
        Due.same("hide", x.help(0, 1), 3);
        Due.same("worth", x.help(1, 0), 9);
        Due.same("hide", x.help(1, 1), 1);
        Due.none("help 2", () -> x.help(2, 0));
        Due.none("help -1", () -> x.help(-1, 0));
        Due.none("help's 2", () -> x.help(0, 2));
        Due.none("help's -1", () -> x.help(0, -1));
    }

    private static void person() {
        NightHelp x = Due.of(SMALL);
        x.ways(2, 4, 3);
        int[][] due = {{1, 3, 0, 0, 0}, {2, 0, 3, 0, 0}, {0, 1, 2, 4, 3}};
        for (int p = 0; p < 3; p++) {
            for (int what = 0; what < 5; what++) {
                Due.same("person " + p + " " + what, x.person(p, what), due[p][what]);
            }
        }
        Due.none("person 3", () -> x.person(3, 0));
        Due.none("person -1", () -> x.person(-1, 0));
        Due.none("person's 5", () -> x.person(0, 5));
        Due.none("person's -1", () -> x.person(0, -1));
    }

    private static void need() {
        NightHelp x = Due.of("help a 1 1;help b 1 1;help c 1 1;person p 1 needs c can a 1 needs a;person q 1;"
            + "person r 1 needs b;");
        int[][] due = {{0, 2}, {0, 0}, {2, 1}};
        for (int n = 0; n < 3; n++) {
            Due.same("need's person", x.need(n, 0), due[n][0]);
            Due.same("need's help", x.need(n, 1), due[n][1]);
            Due.same("need's 2", x.need(n, 2), -1);
            Due.same("need's -1", x.need(n, -1), -1);
        }
        Due.same("need 3", x.need(3, 0), -1);
        Due.same("need -1", x.need(-1, 0), -1);
    }

    private static void tie() {
        NightHelp x = Due.of(SMALL);
        Due.same("al for bo", x.tie(0, 1, 0), 5);
        Due.same("bo for al", x.tie(1, 0, 0), 0);
        Due.same("cy for al", x.tie(2, 0, 0), 10);
        Due.same("bo sees al", x.tie(1, 0, 1), 4);
        Due.same("al sees bo", x.tie(0, 1, 1), 0);
        Due.same("al sees cy", x.tie(0, 2, 1), 2);
        Due.same("al for al", x.tie(0, 0, 0), 0);
        Due.same("tie 3", x.tie(3, 0, 0), -1);
        Due.same("tie to 3", x.tie(0, 3, 0), -1);
        Due.same("tie -1", x.tie(-1, 0, 0), -1);
        Due.same("tie to -1", x.tie(0, -1, 0), -1);
        Due.same("tie's 2", x.tie(0, 1, 2), -1);
        Due.same("tie's -1", x.tie(0, 1, -1), -1);
    }

    private static void found() {
        NightHelp x = Due.of(SMALL);
        Due.same("found al", x.found(0), 7000000);
        Due.same("found bo", x.found(1), 0);
        Due.same("found cy", x.found(2), 2000000);
        Due.same("found 3", x.found(3), -1);
        Due.same("found -1", x.found(-1), -1);
        NightHelp y = Due.of(eightWhoSeeTheFirst());
        Due.same("seen by seven", y.found(0), 10000000 - 9 * 8 * 7 * 6 * 5 * 4 * 3);
        Due.village(y, "person a 1;person b 1;sees b a 10;");
        Due.same("seen wholly", y.found(0), 10000000);
    }

    private static String eightWhoSeeTheFirst() {
        StringBuilder text = new StringBuilder("person pa 1;");
        for (int i = 1; i < 8; i++) {
            char c = (char) ('a' + i);
            text.append("person p").append(c).append(" 1;sees p").append(c).append(" pa ").append(i).append(';');
        }
        return text.toString();
    }

    private static void pair() {
        NightHelp x = Due.of(SMALL);
        Due.same("pair al cy", x.pair(0, 2), 1400000);
        Due.same("pair cy al", x.pair(2, 0), 1400000);
        Due.same("pair al bo", x.pair(0, 1), 0);
        Due.same("pair of one", x.pair(0, 0), -1);
        Due.same("pair 3", x.pair(0, 3), -1);
        Due.same("pair -1", x.pair(-1, 0), -1);
        NightHelp y = Due.of(eightWhoSeeTheFirst() + "sees pa pb 3;sees pc pb 1;sees pd pb 1;sees pe pb 1;"
            + "sees pf pb 1;sees pg pb 1;sees ph pb 1;");
        long one = 10000000 - 9 * 8 * 7 * 6 * 5 * 4 * 3;
        long other = 10000000 - 7 * 9 * 9 * 9 * 9 * 9 * 9;
        Due.same("pair cut", y.pair(0, 1), one * other / 10000000);
    }

    private static void count() {
        NightHelp x = Due.of(SMALL);
        Due.book(x, "year 3;year 4;");
        Due.feed(x, "12345");
        int[] due = {2, 3, 3, 2, 2, 7, 4, 5};
        for (int what = 0; what < due.length; what++) {
            Due.same("count " + what, x.count(what), due[what]);
        }
        Due.same("count 8", x.count(8), -1);
        Due.same("count -1", x.count(-1), -1);
    }
}
