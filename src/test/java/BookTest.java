/** Promises 10 to 14: books, what is wrong in them, and what came of them. */
final class BookTest {
    /** pa, pb can both; pc, pd need; pc can mend for pd. */
    private static final String FOUR = "help dig 10 4;help mend 30 5;person pa 1 can dig 3 can mend 7;"
        + "person pb 2 can dig 2;person pc 3 needs dig needs mend;person pd 0 needs mend can dig 9;"
        + "friend pa pc 5;friend pc pa 3;friend pb pa 10;binds 2;out 6;";

    private BookTest() {
    }

    public static void main(String[] args) {
        lines();
        faults();
        limits();
        wrongHelps();
        wrongThanks();
        wrongLeaving();
        limitOfBonds();
        brokenBonds();
        anew();
        anewWhileBound();
        leaving();
        figures();
        bound();
        Due.finish();
    }

    private static NightHelp judged(String book, String wrongs) {
        NightHelp x = Due.of(FOUR);
        Due.same("lines of " + book, Due.book(x, book), wrongs.length());
        int many = 0;
        for (int i = 0; i < wrongs.length(); i++) {
            int want = wrongs.charAt(i) - '0';
            many += want == 0 ? 0 : 1;
            Due.same("wrong " + i + " of " + book, x.wrong(i), want);
        }
        Due.same("wrong lines of " + book, x.judge(0), many);
        Due.same("behind the last", x.wrong(wrongs.length()), -1);
        return x;
    }

    private static void lines() {
        NightHelp x = Due.of(FOUR);
        Due.same("empty", Due.book(x, ""), 0);
        Due.same("year 0 first", Due.book(x, "year 0;year 1;year 99;"), 3);
        Due.same("year 99 first", Due.book(x, "year 99;"), 1);
        Due.same("hidden", Due.book(x, "pa helps pc dig hidden;pb thanks pc dig;pb leaves pc mend;"), 3);
        Due.same("no blanks", Due.book(x, "pa\nhelps\npc\ndig\n;"), 1);
        Due.same("tape is empty", x.count(7), 0);
        Due.same("a fault", Due.book(x, "pa helps"), -9);
        Due.same("tape is empty then", x.count(7), 0);
        Due.same("book stays", x.count(3), 1);
        Due.same("its help stays", x.judge(4), 1);
        Due.same("wrong(-1)", x.wrong(-1), -1);
    }

    private static void faults() {
        NightHelp x = Due.of(FOUR);
        Due.bookFault(x, 1, "^;");
        Due.bookFault(x, 1, "^1;");
        Due.bookFault(x, 1, "^helps;");
        Due.bookFault(x, 1, "pa ^digs pc dig;");
        Due.bookFault(x, 1, "pa ^pc dig;");
        Due.bookFault(x, 1, "pa ^hidden pc dig;");
        Due.bookFault(x, 1, "pa helps ^1 dig;");
        Due.bookFault(x, 1, "pa helps pc ^hidden;");
        Due.bookFault(x, 1, "pa helps pc dig hidden ^hidden;");
        Due.bookFault(x, 1, "pc thanks pa dig ^hidden;");
        Due.bookFault(x, 1, "pc leaves pa dig ^hidden;");
        Due.bookFault(x, 1, "year ^;");
        Due.bookFault(x, 1, "year ^pa;");
        Due.bookFault(x, 1, "year ^1234;");
        Due.bookFault(x, 1, "year 1^");
        Due.bookFault(x, 1, "pa helps pc dig;^helper2");
        Due.bookFault(x, 2, "year ^100;");
        Due.bookFault(x, 2, "year 5;year ^5;");
        Due.bookFault(x, 2, "year 5;year ^4;");
        Due.bookFault(x, 2, "year 0;year ^0;");
        Due.bookFault(x, 2, "pa helps pc dig;year ^0;");
        Due.bookFault(x, 3, "^zz helps pc dig;");
        Due.bookFault(x, 3, "^dig helps pc dig;");
        Due.bookFault(x, 3, "pa helps ^zz dig;");
        Due.bookFault(x, 3, "pa helps ^dig dig;");
        Due.bookFault(x, 3, "pa helps ^pa dig;");
        Due.bookFault(x, 3, "pa thanks ^pa dig;");
        Due.bookFault(x, 3, "pa leaves ^pa dig;");
        Due.bookFault(x, 3, "pa helps pc ^zz;");
        Due.bookFault(x, 3, "pa helps pc ^pb;");
    }

    private static void limits() {
        NightHelp x = Due.of("help h 1 1;person p 9 can h 1;person q 1 needs h;");
        String sixty = years(50) + Due.repeat("p helps q h;", 9) + "p leaves q h;";
        Due.same("60 lines", Due.book(x, sixty), 60);
        Due.same("all but one of the last ten wrong", x.judge(0), 9);
        Due.same("the 60th line", x.wrong(59), 6);
        Due.bookFault(x, 4, sixty + "^p helps q h;");
        Due.bookFault(x, 4, sixty + "^year 98;");
        Due.bookFault(x, 4, sixty + "^year 0;");
        Due.bookFault(x, 4, sixty + "^q");
        Due.bookFault(x, 3, sixty + "^zz helps q h;");
        Due.bookFault(x, 3, sixty + "^h");
        Due.bookFault(x, 1, sixty + "^can helps q h;");
        Due.bookFault(x, 1, sixty + "^;");
        Due.same("700 bytes", Due.book(x, Due.blanks("year 1;", 700)), 1);
        Due.bookFault(x, 1, Due.blanks("year 1;", 700) + "^ ");
        Due.bookFault(x, 1, Due.blanks("year 1;", 700) + "^year 2;");
        Due.bookFault(x, 2, Due.blanks("year", 699) + "^100;");
        Due.bookFault(x, 1, Due.blanks("year", 699) + "1^0;");
    }

    private static String years(int many) {
        StringBuilder all = new StringBuilder();
        for (int year = 0; year < many; year++) {
            all.append("year ").append(year).append(';');
        }
        return all.toString();
    }

    private static void wrongHelps() {
        NightHelp x = judged("pb helps pc mend;pb helps pa mend;pa helps pb dig;pa helps pc dig;pb helps pc dig;"
            + "pa helps pc dig;year 1;pb helps pc dig;", "11203300");
        Due.same("helps", x.judge(4), 2);
        Due.same("what is wrong costs nothing", x.came(0, 0), -3);
        Due.same("worths", x.came(2, 0), 20);
        Due.same("pains", x.came(1, 0), -2);
        Due.same("all", x.judge(3), 15);
        x = judged("pa helps pc mend hidden;", "0");
        Due.same("hide is paid besides", x.came(0, 0), -12);
    }

    private static void wrongThanks() {
        NightHelp x = judged("pc thanks pa dig;pa helps pc dig;pc thanks pa dig;pa thanks pb dig;pc thanks pd dig;",
            "40047");
        Due.same("no thanks astray", x.judge(1), 0);
        x = judged("pa helps pc mend;pc thanks pb mend;pc thanks pd mend;pd thanks pb mend;pc thanks pa mend;"
            + "year 1;pc thanks pa mend;", "0554004");
        x = judged("pa helps pc dig;pc thanks pb dig;pc thanks pa dig;pc thanks pb dig;", "0000");
        Due.same("astray twice", x.judge(1), 2);
        Due.same("pa bound", x.bound(0, 2, 0), 2);
        Due.same("pb bound", x.bound(1, 2, 0), 2);
    }

    private static void wrongLeaving() {
        NightHelp x = judged("pa leaves pc dig;pa helps pc dig;pa leaves pc dig;pc thanks pa dig;pb leaves pc dig;"
            + "pa leaves pc mend;pa leaves pb dig;pa leaves pc dig;pa leaves pc dig;", "606066606");
        Due.same("out is paid once", x.came(0, 0), -9);
        judged("pa helps pc dig;pc thanks pa dig;year 2;pa leaves pc dig;", "0000");
        judged("pa helps pc dig;pc thanks pa dig;year 3;pa leaves pc dig;", "0006");
    }

    private static void limitOfBonds() {
        judged("pa helps pc dig;pa helps pc mend;pc thanks pa mend;pc thanks pa dig;pc thanks pa mend;", "00070");
        judged("pa helps pc dig;pc thanks pa dig;pa leaves pc dig;pa helps pc mend;pc thanks pa mend;", "00000");
        judged("pa helps pc dig;pc thanks pa dig;year 2;pa helps pc mend;pc thanks pa mend;", "00007");
        judged("pa helps pc dig;pc thanks pa dig;year 3;pa helps pc mend;pc thanks pa mend;", "00000");
        judged("pb helps pc dig;pc thanks pd dig;pc thanks pb dig;", "070");
    }

    private static void brokenBonds() {
        NightHelp x = judged("pa helps pc dig;pc thanks pa dig;", "00");
        Due.same("not to be done in the same year", x.judge(2), 0);
        x = judged("pa helps pc dig;pc thanks pa dig;year 1;pa helps pc dig;year 2;pa helps pc dig hidden;year 3;",
            "0000000");
        Due.same("kept", x.judge(2), 0);
        x = judged("pa helps pc dig;pc thanks pa dig;year 1;year 2;pa helps pc dig;", "00000");
        Due.same("one broken", x.judge(2), 1);
        x = judged("pa helps pc dig;pc thanks pa dig;year 1;pb helps pc dig;year 2;pa helps pc mend;", "000000");
        Due.same("both broken, one at the end", x.judge(2), 2);
        Due.same("by pa", x.came(0, 4), 2);
        Due.same("by pb", x.came(1, 4), 0);
        x = judged("pb helps pc dig;pc thanks pa dig;pc thanks pb dig;year 99;", "0000");
        Due.same("years between", x.judge(2), 4);
        Due.same("of each", x.came(0, 4) * 10 + x.came(1, 4), 22);
    }

    private static void anew() {
        NightHelp x = judged("pa helps pc dig;pc thanks pa dig;year 1;pa helps pc dig;pc thanks pa dig;", "00000");
        Due.same("counted anew", x.bound(0, 2, 0), 2);
        Due.same("one bond", x.came(0, 3), 1);
        x = judged("pa helps pc dig;pc thanks pa dig;year 2;pa helps pc dig;pc thanks pa dig;year 9;", "000000");
        Due.same("1, 3 and 4 broken", x.judge(2), 3);
        x = judged("pa helps pc dig;pc thanks pa dig;pc thanks pa dig;year 9;", "0000");
        Due.same("1 and 2 broken", x.judge(2), 2);
    }

    /** Thanks again take nothing away of what was to be done in that year already. */
    private static void anewWhileBound() {
        String bound = "pa helps pc dig;pc thanks pa dig;";
        NightHelp x = judged(bound + "year 1;pb helps pc dig;pc thanks pa dig;", "00000");
        Due.same("broken with the book", x.judge(2), 1);
        Due.same("by pa", x.came(0, 4), 1);
        Due.same("not by pb", x.came(1, 4), 0);
        Due.same("astray", x.judge(1), 1);
        Due.same("counted anew all the same", x.bound(0, 2, 0), 2);
        Due.same("one bond", x.came(0, 3), 1);
        Due.sentence(x, "broken = 1");
        Due.same("said of pa", x.said(), 1);
        x = judged(bound + "year 1;pb helps pc dig;pc thanks pa dig;pc thanks pa dig;year 2;pa helps pc dig;",
            "00000000");
        Due.same("once, however often thanked", x.judge(2), 1);
        x = judged(bound + "year 1;pb helps pc dig;pc thanks pa dig;year 9;", "000000");
        Due.same("1, 2 and 3 broken", x.judge(2), 3);
        x = judged(bound + "year 2;pb helps pc dig;pc thanks pa dig;year 9;", "000000");
        Due.same("1, the last one 2, 3 and 4 broken", x.judge(2), 4);
        x = judged(bound + "year 3;pb helps pc dig;pc thanks pa dig;", "00000");
        Due.same("behind the last one nothing is due", x.judge(2), 2);
        x = judged(bound + "year 1;pb helps pc dig;pc thanks pa dig;year 2;pb helps pc dig;pc thanks pa dig;year 9;",
            "000000000");
        Due.same("1 to 4 broken", x.judge(2), 4);
        x = judged(bound + "year 1;pb helps pc dig;pc thanks pa dig;pa leaves pc dig;year 9;", "0000000");
        Due.same("who leaves is bound no more, in that year neither", x.judge(2), 0);
        x = judged(bound + "year 1;pb helps pc dig;pa leaves pc dig;pc thanks pa dig;", "000000");
        Due.same("who left is bound from the next year on alone", x.judge(2), 0);
        Due.same("two years", x.bound(0, 2, 0), 2);
        x = judged(bound + "year 1;pa helps pc dig;pc thanks pb dig;pc thanks pa dig;", "000000");
        Due.same("kept", x.judge(2), 0);
    }

    private static void leaving() {
        NightHelp x = judged("pa helps pc dig;pc thanks pa dig;year 1;pa leaves pc dig;year 9;", "00000");
        Due.same("bound no more", x.judge(2), 0);
        Due.same("out", x.came(0, 0), -9);
        x = judged("pa helps pc dig;pc thanks pa dig;pa leaves pc dig;pc thanks pa dig;year 1;", "00000");
        Due.same("bound again", x.bound(0, 2, 0), 1);
        Due.same("and broken", x.judge(2), 1);
    }

    private static void figures() {
        NightHelp x = judged("pa helps pc mend hidden;pb helps pc dig;pc thanks pa mend;pc thanks pb dig;year 1;"
            + "pa helps pd mend;pa leaves pc mend;pb helps pc dig;", "00000000");
        int[][] due = {{-25, 0, 2, 0, 0}, {-4, -29, 2, 1, 0}, {50, 43, 0, 0, 0}, {30, 30, 0, 0, 0}};
        for (int p = 0; p < 4; p++) {
            for (int what = 0; what < 5; what++) {
                Due.same("came " + p + " " + what, x.came(p, what), due[p][what]);
            }
        }
        int[] judged = {0, 0, 0, 51, 4};
        for (int what = 0; what < 5; what++) {
            Due.same("judge " + what, x.judge(what), judged[what]);
        }
        Due.same("judge 5", x.judge(5), -1);
        Due.same("judge -1", x.judge(-1), -1);
        Due.none("came 4", () -> x.came(4, 0));
        Due.none("came -1", () -> x.came(-1, 0));
        Due.none("came's 5", () -> x.came(0, 5));
        Due.none("came's -1", () -> x.came(0, -1));
        NightHelp y = Due.of("help h 7 1;person p 1 can h 9;person q 1 needs h;person r 1;friend r p 5;friend r q 5;");
        Due.book(y, "p helps q h;");
        Due.same("each cut towards 0", y.came(2, 1), -4 + 3);
        Due.same("none gained", y.came(2, 0), 0);
    }

    private static void bound() {
        NightHelp x = judged("pa helps pc dig;pc thanks pa dig;", "00");
        Due.same("two years", x.bound(0, 2, 0), 2);
        Due.same("other help", x.bound(0, 2, 1), 0);
        Due.same("other way", x.bound(2, 0, 0), 0);
        Due.same("not needed", x.bound(0, 1, 0), 0);
        Due.same("one's own", x.bound(0, 0, 0), 0);
        Due.same("person 4", x.bound(4, 2, 0), -1);
        Due.same("person -1", x.bound(-1, 2, 0), -1);
        Due.same("to 4", x.bound(0, 4, 0), -1);
        Due.same("to -1", x.bound(0, -1, 0), -1);
        Due.same("help 2", x.bound(0, 2, 2), -1);
        Due.same("help -1", x.bound(0, 2, -1), -1);
        Due.same("a bond", x.came(0, 3), 1);
        x = judged("pa helps pc dig;pc thanks pa dig;year 1;", "000");
        Due.same("one year", x.bound(0, 2, 0), 1);
        Due.same("a bond", x.came(0, 3), 1);
        x = judged("pa helps pc dig;pc thanks pa dig;year 2;", "000");
        Due.same("no year behind the last", x.bound(0, 2, 0), 0);
        Due.same("no bond behind the end", x.came(0, 3), 0);
        x = judged("pa helps pc dig;pc thanks pa dig;year 7;", "000");
        Due.same("not below 0", x.bound(0, 2, 0), 0);
        Due.book(x, "");
        Due.same("a new book begins anew", x.judge(2), 0);
        Due.book(x, "pa helps pc dig;pc thanks pb dig;pa helps pc dig;");
        Due.same("wrong", x.judge(0), 1);
        Due.same("astray", x.judge(1), 1);
        Due.book(x, "pa leaves pc dig;pb leaves pc dig;pa helps pc dig;");
        Due.same("no bond is left of the book before", x.judge(0), 2);
        Due.same("no thanks astray", x.judge(1), 0);
        Due.same("one help", x.judge(4), 1);
        Due.sentence(x, "free");
        Due.same("all are free", x.said(), 15);
    }
}
