/** "==== 2." of the document, the BOOK: each sentence with what is allowed last and what is not first. */
final class BookEdgesTest {
    /** pa can both, pb can both, pd can dig; pc needs both, pd needs mend. */
    private static final String FOUR = "help dig 10 4;help mend 30 5;person pa 9 can dig 3 can mend 7;"
        + "person pb 9 can dig 2 can mend 1;person pc 3 needs dig needs mend;person pd 0 needs mend can dig 9;";
    private static final String THANKED = "pa helps pc dig;pc thanks pa dig;";

    private BookEdgesTest() {
    }

    public static void main(String[] args) {
        bytesAtMost();
        linesEnd();
        years();
        yearOfThen();
        yearNought();
        hidden();
        verbs();
        faultsOfNames();
        onePersonTwice();
        linesAtMost();
        leastOfOneToken();
        helpsCost();
        thanksBind();
        boundYearByYear();
        countedAnew();
        whoLeaves();
        wrong1();
        wrong2();
        wrong3();
        wrong4();
        wrong5();
        wrong6();
        wrong7();
        holdTogether();
        theLeast();
        leftOut();
        lastOfAll();
        astray();
        broken();
        brokenOfEachYear();
        gained();
        felt();
        Due.finish();
    }

    private static NightHelp four(String more) {
        return Due.of(FOUR + more);
    }

    /** A book's LINES judged: a digit each, why it is WRONG. */
    private static NightHelp judged(NightHelp x, String wrongs, String book) {
        Due.bookLines(x, wrongs.length(), book);
        int many = 0;
        for (int i = 0; i < wrongs.length(); i++) {
            many += wrongs.charAt(i) == '0' ? 0 : 1;
            Due.same("LINE " + i + " of " + book, x.wrong(i), wrongs.charAt(i) - '0');
        }
        Due.same("WRONG LINES of " + book, x.judge(0), many);
        return x;
    }

    private static NightHelp judged(String wrongs, String book) {
        return judged(four("binds 2;out 6;"), wrongs, book);
    }

    // ---- the text

    private static void bytesAtMost() {
        Due.says("A BOOK is a text of at most 700 bytes: { LINE ; }.");
        NightHelp x = four("");
        Due.bookLines(x, 1, Due.blanks("year 5;", 699));
        Due.bookLines(x, 1, Due.blanks("year 5;", 700));
        Due.bookFault(x, 1, Due.blanks("year 5;", 700) + "^ ");
        Due.bookFault(x, 1, Due.blanks("year 5;", 700) + "^\n");
        Due.bookFault(x, 1, Due.blanks("year 5;", 700) + "^year 6;");
        Due.bookLines(x, 1, Due.blanks("year 5", 699) + ";");
        Due.bookFault(x, 1, Due.blanks("year 5", 700) + "^;");
        Due.bookFault(x, 1, Due.blanks("year 5;", 700) + "^" + Due.repeat(" ", 240));
        NightHelp y = four("");
        Due.bookFault(y, 1, Due.blanks("year", 699) + "5^5;");
        Due.bookFault(y, 2, Due.blanks("year", 699) + "^100;");
        Due.bookFault(y, 1, Due.blanks("year", 699) + "^1000;");
        Due.bookFault(y, 1, Due.blanks("year 5;", 699) + "p^a helps pc dig;");
        Due.bookFault(y, 3, Due.blanks("year 5;", 699) + "^px helps pc dig;");
        Due.bookFault(y, 1, Due.blanks("pa helps pc dig", 699) + "h^idden;");
        Due.bookFault(y, 1, Due.blanks("pa helps pc dig", 699) + "^hiddens;");
        Due.bookFault(y, 2, Due.blanks("year ^100;", 941));
    }

    private static void linesEnd() {
        Due.says("A BOOK is a text of at most 700 bytes: { LINE ; }.");
        NightHelp x = four("");
        Due.bookLines(x, 0, "");
        Due.bookLines(x, 0, " \n ");
        Due.bookFault(x, 1, "^;");
        Due.bookFault(x, 1, "year 5;^;");
        String[] begun = {"year", "year 5", "pa", "pa helps", "pa helps pc", "pa helps pc dig", "pa helps pc dig hidden",
            "pc thanks", "pc thanks pa", "pc thanks pa dig", "pa leaves", "pa leaves pc", "pa leaves pc dig",
            "year 5;pa"};
        for (String text : begun) {
            NightHelp y = four("");
            Due.bookFault(y, 1, text + "^");
            Due.bookFault(y, 1, text + " \n^");
        }
        Due.bookFault(x, 1, "year 5 ^year 6;");
        Due.bookFault(x, 1, "pa helps pc dig ^pa helps pc mend;");
    }

    private static void years() {
        Due.says("'year' N (0 to 99, above the YEAR of then, which is 0 at first; as the first LINE of all 0, too)");
        NightHelp x = four("");
        Due.bookLines(x, 1, "year 1;");
        Due.bookLines(x, 1, "year 99;");
        Due.bookFault(x, 2, "year ^100;");
        Due.bookFault(x, 2, "year ^999;");
        Due.bookLines(x, 2, "year 98;year 99;");
        Due.bookFault(x, 2, "year 99;year ^99;");
        Due.bookFault(x, 2, "year 99;year ^100;");
        Due.bookFault(x, 1, "year ^-1;");
        Due.bookFault(x, 1, "year ^pa;");
    }

    private static void yearOfThen() {
        Due.says("above the YEAR of then, which is 0 at first;");
        NightHelp x = four("");
        Due.bookLines(x, 3, "year 5;year 6;year 8;");
        Due.bookFault(x, 2, "year 5;year ^5;");
        Due.bookFault(x, 2, "year 5;year ^4;");
        Due.bookFault(x, 2, "year 5;year ^0;");
        Due.bookFault(x, 2, "year 5;year 6;pa helps pc dig;year ^6;");
        Due.bookLines(x, 2, "pa helps pc dig;year 1;");
        Due.bookFault(x, 2, "pa helps pc dig;year ^0;");
        Due.bookLines(x, 1, "year 1;");
        Due.same("the YEAR of the BOOK before is none of this one", Due.book(x, "year 1;"), 1);
    }

    private static void yearNought() {
        Due.says("as the first LINE of all 0, too)");
        NightHelp x = four("");
        Due.bookLines(x, 1, "year 0;");
        Due.bookLines(x, 2, "year 0;year 1;");
        Due.bookLines(x, 1, "year 000;");
        Due.bookFault(x, 2, "year 0;year ^0;");
        Due.bookFault(x, 2, "pa helps pc mend;year ^0;");
        Due.bookFault(x, 2, "pa leaves pc mend;year ^0;");
        judged("000", "year 0;pa helps pc dig;pc thanks pa dig;");
    }

    private static void hidden() {
        Due.says("PERSON 'helps' PERSON HELP [ 'hidden' ]");
        NightHelp x = four("");
        Due.bookLines(x, 1, "pa helps pc dig hidden;");
        Due.bookFault(x, 1, "pa helps pc dig hidden ^hidden;");
        Due.bookFault(x, 1, "pc thanks pa dig ^hidden;");
        Due.bookFault(x, 1, "pa leaves pc dig ^hidden;");
        Due.bookFault(x, 1, "year 1 ^hidden;");
        Due.bookFault(x, 1, "pa helps pc ^hidden dig;");
    }

    private static void verbs() {
        Due.says("PERSON 'thanks' PERSON HELP | PERSON 'leaves' PERSON HELP.");
        NightHelp x = four("");
        for (String word : new String[] {"year", "hidden", "help", "can", "needs", "not", "pa", "dig", "zz", "5", ";"}) {
            Due.bookFault(x, 1, "pa ^" + word + " pc dig;");
        }
        for (String word : new String[] {"helps", "help", "hidden", "bound", "5", "(", "."}) {
            Due.bookFault(x, 1, "^" + word + " helps pc dig;");
        }
        NightHelp y = four("");
        for (String word : new String[] {"helps", "year", "free", "5", ";"}) {
            Due.bookFault(y, 1, "pa helps ^" + word + " dig;");
            Due.bookFault(y, 1, "pa helps pc ^" + word + ";");
        }
        judged("046", "pa helps pc dig;pb thanks pa dig;pb leaves pc dig;");
    }

    private static void faultsOfNames() {
        Due.says("FAULTS: 1, 2, 3 (no such NAME; one PERSON twice: at the second), 4 a 61st LINE (at its first WORD).");
        NightHelp x = four("");
        for (String verb : new String[] {"helps", "thanks", "leaves"}) {
            Due.bookFault(x, 3, "^zz " + verb + " pc dig;");
            Due.bookFault(x, 3, "^dig " + verb + " pc dig;");
            Due.bookFault(x, 3, "pa " + verb + " ^zz dig;");
            Due.bookFault(x, 3, "pa " + verb + " ^dig dig;");
            Due.bookFault(x, 3, "pa " + verb + " pc ^zz;");
            Due.bookFault(x, 3, "pa " + verb + " pc ^pa;");
        }
        Due.bookFault(new NightHelp(), 3, "^pa helps pc dig;");
        Due.bookLines(new NightHelp(), 1, "year 1;");
        NightHelp y = four("");
        Due.village(y, "help mow 1 1;person qa 1;person qb 1;");
        Due.bookFault(y, 3, "^pa helps qb mow;");
        Due.bookFault(y, 3, "qa helps ^pb mow;");
        Due.bookFault(y, 3, "qa helps qb ^dig;");
    }

    private static void onePersonTwice() {
        Due.says("one PERSON twice: at the second)");
        NightHelp x = four("");
        Due.bookFault(x, 3, "pd helps ^pd mend;");
        Due.bookFault(x, 3, "pd thanks ^pd mend;");
        Due.bookFault(x, 3, "pd leaves ^pd mend;");
        Due.bookFault(x, 3, "pa helps ^pa zz;");
        Due.bookFault(x, 3, "pa helps ^pa");
        Due.bookLines(x, 2, "pa helps pd mend;pd helps pc dig;");
    }

    private static void linesAtMost() {
        Due.says("4 a 61st LINE (at its first WORD).");
        NightHelp x = four("");
        String sixty = yearsFrom(1, 59) + "pa helps pc dig;";
        Due.bookLines(x, 59, yearsFrom(1, 59));
        Due.bookLines(x, 60, yearsFrom(1, 60));
        Due.bookLines(x, 60, sixty);
        Due.same("the 60th LINE is done", x.judge(4), 1);
        Due.same("the 60th LINE", x.wrong(59), 0);
        Due.same("no 61st", x.wrong(60), -1);
        Due.bookFault(x, 4, sixty + "^year 98;");
        Due.bookFault(x, 4, sixty + " \n ^pa helps pc mend;");
        Due.bookFault(x, 4, sixty + "^year");
        Due.bookFault(x, 4, sixty + "^pa zz;");
        Due.bookFault(x, 4, sixty + "^year 0;");
        Due.same("the BOOK of 60 LINES stays", x.count(3), 60);
    }

    private static String yearsFrom(int first, int last) {
        StringBuilder text = new StringBuilder();
        for (int year = first; year <= last; year++) {
            text.append("year ").append(year).append(';');
        }
        return text.toString();
    }

    private static void leastOfOneToken() {
        Due.says("FAULTS, the first along the text, of one TOKEN the least");
        NightHelp x = four("");
        String sixty = yearsFrom(1, 60);
        Due.bookFault(x, 3, sixty + "^zz helps pc dig;");
        Due.bookFault(x, 3, sixty + "^dig helps pc dig;");
        Due.bookFault(x, 1, sixty + "^helps pa pc dig;");
        Due.bookFault(x, 1, sixty + "^5;");
        Due.bookFault(x, 1, sixty + "^;");
        Due.bookFault(x, 1, sixty + "^abcdefg;");
        Due.bookFault(x, 1, "pa helps ^can dig;");
        NightHelp y = four("");
        Due.bookFault(y, 2, "year ^100;zz");
        Due.bookFault(y, 3, "^zz helps zz zz;year 100;");
        Due.bookFault(y, 1, "pa ^pa pa;year 100;");
        Due.bookFault(y, 2, "year 9;year ^9 year;");
    }

    // ---- helps, thanks, leaving

    private static void helpsCost() {
        Due.says("A help costs who helps PAINS, HIDE besides if it is hidden, and gives the other one its WORTH.");
        NightHelp x = judged("0", "pa helps pc dig;");
        Due.same("by day", x.came(0, 0), -3);
        Due.same("WORTH", x.came(2, 0), 10);
        Due.same("others", x.came(1, 0) + x.came(3, 0), 0);
        x = judged("0", "pa helps pc dig hidden;");
        Due.same("hidden", x.came(0, 0), -3 - 4);
        Due.same("WORTH of a hidden one", x.came(2, 0), 10);
        x = judged(Due.of("help a 99 99;help b 1 0;person p 1 can a 99 can b 1;person q 1 needs a needs b;"), "00",
            "p helps q a hidden;p helps q b hidden;");
        Due.same("the most and the least", x.came(0, 0), -99 - 99 - 1);
        Due.same("both WORTHS", x.came(1, 0), 100);
    }

    private static void thanksBind() {
        Due.says("Thanks bind the one thanked to do that HELP for the one who thanks in each of the next 'binds' YEARS;");
        for (int binds = 1; binds <= 9; binds++) {
            NightHelp x = judged(four("binds " + binds + ";"), "00", THANKED);
            Due.same("YEARS by binds " + binds, x.bound(0, 2, 0), binds);
            Due.same("in the YEAR itself nothing is due", x.judge(2), 0);
            judged(x, "000", THANKED + "year " + binds + ";");
            Due.same("BROKEN in the last of them", x.came(0, 4), binds);
            judged(x, "000", THANKED + "year " + (binds + 1) + ";");
            Due.same("BROKEN up to the one behind", x.came(0, 4), binds);
            judged(x, "000", THANKED + "year 99;");
            Due.same("BROKEN up to 99", x.came(0, 4), binds);
        }
        NightHelp x = judged(four(""), "00", THANKED);
        Due.same("without 'binds'", x.bound(0, 2, 0), 3);
        x = judged("0000", "year 98;" + THANKED + "year 99;");
        Due.same("a YEAR behind 99 is left", x.bound(0, 2, 0), 1);
        x = judged("000", "year 99;" + THANKED);
        Due.same("both YEARS behind 99 are left", x.bound(0, 2, 0), 2);
    }

    private static void boundYearByYear() {
        Due.says("YEARS behind the last one of the BOOK for which p is bound to q for HELP k;");
        NightHelp x = four("binds 2;");
        int[] due = {2, 1, 0, 0};
        for (int year = 1; year < 4; year++) {
            Due.book(x, THANKED + "year " + year + ";");
            Due.same("YEARS left in YEAR " + year, x.bound(0, 2, 0), due[year]);
            Due.same("bonds at the end of YEAR " + year, x.came(0, 3), due[year] > 0 ? 1 : 0);
        }
        Due.same("no other HELP", x.bound(0, 2, 1), 0);
    }

    private static void countedAnew() {
        Due.says("thanked again the YEARS are counted anew.");
        NightHelp x = judged("0000", THANKED + "pc thanks pa dig;pc thanks pa dig;");
        Due.same("often in one YEAR", x.bound(0, 2, 0), 2);
        Due.same("one bond", x.came(0, 3), 1);
        x = judged("00000", THANKED + "year 1;" + THANKED);
        Due.same("in the first of the YEARS", x.bound(0, 2, 0), 2);
        x = judged("00000", THANKED + "year 2;" + THANKED);
        Due.same("in the last of the YEARS", x.bound(0, 2, 0), 2);
        Due.same("BROKEN in YEAR 1 alone", x.judge(2), 1);
        x = judged("000000", THANKED + "year 2;" + THANKED + "year 99;");
        Due.same("BROKEN in 1, 3, 4", x.judge(2), 3);
        x = judged("000000", THANKED + "year 3;" + THANKED + "year 99;");
        Due.same("behind the YEARS: BROKEN in 1, 2, 4, 5", x.judge(2), 4);
        x = judged("000000", THANKED + "year 1;pb helps pc dig;pc thanks pa dig;year 99;");
        Due.same("thanked without doing it: BROKEN in 1, 2, 3", x.judge(2), 3);
    }

    private static void whoLeaves() {
        Due.says("Who leaves pays 'out' and is bound to that no more.");
        NightHelp x = judged("0000", THANKED + "pa leaves pc dig;year 99;");
        Due.same("out", x.came(0, 0), -3 - 6);
        Due.same("nothing due any more", x.judge(2), 0);
        x = judged("00000000", THANKED + "pa helps pc mend;pc thanks pa mend;year 1;pa leaves pc dig;pa helps pc mend;"
            + "pc thanks pa mend;");
        Due.same("bound to that no more", x.bound(0, 2, 0), 0);
        Due.same("bound to the other", x.bound(0, 2, 1), 2);
        Due.same("one bond", x.came(0, 3), 1);
        x = judged(four("out 0;"), "000", THANKED + "pa leaves pc dig;");
        Due.same("out 0", x.came(0, 0), -3);
        x = judged(four("out 999;"), "000", THANKED + "pa leaves pc dig;");
        Due.same("out 999", x.came(0, 0), -1002);
        x = judged(four(""), "000", THANKED + "pa leaves pc dig;");
        Due.same("without 'out'", x.came(0, 0), -53);
        x = judged("0000", THANKED + "pa leaves pc dig;pc thanks pa dig;");
        Due.same("thanked behind that", x.bound(0, 2, 0), 2);
        x = judged("00000", THANKED + "pc thanks pb dig;pa leaves pc dig;year 99;");
        Due.same("the other one stays bound", x.came(1, 4) * 10 + x.came(0, 4), 20);
    }

    // ---- what is WRONG

    private static void wrong1() {
        Due.says("1 helps: that one can't;");
        judged("010", "pb helps pc dig;pd helps pc mend;pb helps pc mend;");
    }

    private static void wrong2() {
        Due.says("2 helps: the other one does not need it;");
        judged("0220", "pa helps pd mend;pa helps pd dig;pa helps pb mend;pa helps pc mend;");
    }

    private static void wrong3() {
        Due.says("3 helps: it was done for that one already in the YEAR;");
        judged("03300", "pa helps pc mend;pa helps pc mend;pb helps pc mend;pb helps pd mend;pb helps pc dig;");
        judged("00033", "pa helps pc mend;year 1;pb helps pc mend;pa helps pc mend hidden;pb helps pc mend;");
        judged("00000", "pa helps pc mend;year 1;pa helps pc mend;year 3;pb helps pc mend;");
    }

    private static void wrong4() {
        Due.says("4 thanks: it was not done for who thanks in the YEAR;");
        judged("4040", "pc thanks pa dig;pa helps pc dig;pc thanks pa mend;pc thanks pa dig;");
        judged("004", "pa helps pc dig;year 1;pc thanks pa dig;");
        judged("04", "pa helps pc mend;pd thanks pa mend;");
        judged("04", "pa helps pc mend;pb thanks pa mend;");
        judged("14", "pd helps pc mend;pc thanks pd mend;");
        judged("0000", "year 7;pa helps pc dig;pc thanks pa dig;year 8;");
    }

    private static void wrong5() {
        Due.says("5 thanks: the one thanked can't;");
        judged("0500", "pa helps pc mend;pc thanks pd mend;pc thanks pb mend;pc thanks pa mend;");
    }

    private static void wrong6() {
        Due.says("6 leaves: that one is not bound to it (in the YEAR or the next ones);");
        judged("600", "pa leaves pc dig;" + THANKED);
        judged("000", THANKED + "pa leaves pc dig;");
        judged("0000", THANKED + "year 1;pa leaves pc dig;");
        judged("0000", THANKED + "year 2;pa leaves pc dig;");
        judged("0006", THANKED + "year 3;pa leaves pc dig;");
        judged("0006", THANKED + "year 99;pa leaves pc dig;");
        judged("0006", THANKED + "pa leaves pc dig;pa leaves pc dig;");
        judged("00666", THANKED + "pa leaves pc mend;pb leaves pc dig;pa leaves pd dig;");
        NightHelp x = judged("006", THANKED + "pb leaves pc dig;");
        Due.same("nothing is paid", x.came(1, 0), 0);
        Due.same("nobody else is free by it", x.bound(0, 2, 0), 2);
    }

    private static void wrong7() {
        Due.says("7 thanks: the one thanked would be bound to more than LIMIT");
        for (int limit = 0; limit <= 6; limit++) {
            NightHelp x = Due.of(helpsOf(6) + "person p " + limit + skills(6) + ";person q 1" + wants(6) + ";");
            Due.book(x, helpAll("p", "q") + thankAll("q", "p"));
            for (int k = 0; k < 6; k++) {
                Due.same("thanks " + k + " to one of LIMIT " + limit, x.wrong(6 + k), k < limit ? 0 : 7);
            }
            Due.same("bonds", x.came(0, 3), limit);
            Due.same("WRONG LINES", x.judge(0), 6 - limit);
        }
        nine();
    }

    private static void nine() {
        for (int limit = 8; limit <= 9; limit++) {
            NightHelp x = Due.of(helpsOf(5) + "person p " + limit + skills(5) + ";person q 1" + wants(5)
                + ";person r 1" + wants(5) + ";");
            Due.book(x, helpAll("p", "q").replace("p helps q f;", "") + helpAll("p", "r").replace("p helps r f;", "")
                + thankAll("q", "p").replace("q thanks p f;", "") + thankAll("r", "p").replace("r thanks p f;", ""));
            Due.same("the eighth bond", x.wrong(17), 0);
            Due.same("the ninth bond", x.wrong(18), limit == 9 ? 0 : 7);
            Due.same("the tenth bond", x.wrong(19), 7);
            Due.same("bonds", x.came(0, 3), limit);
        }
    }

    private static String helpsOf(int many) {
        StringBuilder text = new StringBuilder();
        for (int k = 0; k < many; k++) {
            text.append("help ").append((char) ('a' + k)).append(" 1 0;");
        }
        return text.toString();
    }

    private static String skills(int many) {
        StringBuilder text = new StringBuilder();
        for (int k = 0; k < many; k++) {
            text.append(" can ").append((char) ('a' + k)).append(" 1");
        }
        return text.toString();
    }

    private static String wants(int many) {
        return skills(many).replace("can", "needs").replace(" 1", "");
    }

    private static String helpAll(String p, String q) {
        StringBuilder text = new StringBuilder();
        for (char k = 'a'; k < 'g'; k++) {
            text.append(p).append(" helps ").append(q).append(' ').append(k).append(';');
        }
        return text.toString();
    }

    private static String thankAll(String p, String q) {
        return helpAll(p, q).replace("helps", "thanks");
    }

    private static void holdTogether() {
        Due.says("(all that hold in the YEAR or a later one together)");
        String one = FOUR.replace("pa 9", "pa 1") + "binds 2;";
        String again = "pa helps pc mend;pc thanks pa mend;";
        judged(Due.of(one), "0007", THANKED + again);
        judged(Due.of(one), "00007", THANKED + "year 1;" + again);
        judged(Due.of(one), "00007", THANKED + "year 2;" + again);
        judged(Due.of(one), "00000", THANKED + "year 3;" + again);
        judged(Due.of(one), "00000", THANKED + "pa leaves pc dig;" + again);
        judged(Due.of(one), "000000", THANKED + "year 2;pa leaves pc dig;" + again);
        // one bond again is no other one
        judged(Due.of(one), "000", THANKED + "pc thanks pa dig;");
        judged(Due.of(one), "00000", THANKED + "year 2;" + THANKED);
        // the same HELP for another one is
        judged(Due.of(one), "0007", "pa helps pc mend;pc thanks pa mend;pa helps pd mend;pd thanks pa mend;");
        // others' bonds are not counted
        judged(Due.of(one), "0000", "pb helps pc dig;pc thanks pb dig;" + again);
        judged(Due.of(one), "07", "pa helps pc dig;pc thanks pd dig;");
    }

    private static void theLeast() {
        Due.says("A LINE is WRONG, the least:");
        judged("1", "pd helps pa mend;");
        judged("1", "pc helps pb mend;");
        judged("01", "pa helps pc mend;pd helps pc mend;");
        judged("4", "pc thanks pd mend;");
        judged("4", "pc thanks pd dig;");
        judged("05", "pa helps pc mend;pc thanks pd mend;");
        NightHelp x = Due.of("help a 1 0;person p 0;person q 0 can a 1;person r 1 needs a;");
        judged(x, "057", "q helps r a;r thanks p a;r thanks q a;");
        judged(x, "4", "r thanks q a;");
    }

    private static void leftOut() {
        Due.says("What is WRONG is left out, the rest is done.");
        NightHelp x = judged("1200", "pd helps pc mend;pa helps pb dig;pa helps pc mend;pb helps pd mend;");
        Due.same("two were done", x.judge(4), 2);
        Due.same("pd paid nothing, and has its WORTH", x.came(3, 0), 30);
        Due.same("pb gained nothing by it", x.came(1, 0), -1);
        x = judged("030", "pa helps pc dig;pb helps pc dig;pc thanks pb dig;");
        Due.same("who was late did not do it", x.judge(1), 1);
        Due.same("nor paid for it", x.came(1, 0), 0);
        x = judged("0564", "pa helps pc mend;pc thanks pd mend;pd leaves pc mend;pd thanks pa mend;");
        Due.same("nobody is bound", x.came(0, 3) + x.came(3, 3), 0);
        Due.same("nobody paid to leave", x.came(3, 0), 0);
        Due.sentence(x, "free");
        Due.same("nobody ever was", x.said(), 15);
        x = judged("00700", "pa helps pc dig;pa helps pc mend;pc thanks pd dig;pc thanks pa dig;year 9;");
        Due.same("BROKEN by pa alone", x.came(0, 4) * 10 + x.came(3, 4), 20);
    }

    /** Six HELPS, eight PERSONS, 48 NEEDS: those of w, the last one, are 42 to 47; p and w can all. */
    private static String largest(int limit) {
        StringBuilder text = new StringBuilder(helpsOf(6));
        for (char p = 'p'; p <= 'w'; p++) {
            text.append("person ").append(p).append(' ').append(limit).append(wants(6));
            text.append(p == 'p' || p == 'w' ? skills(6) : "").append(';');
        }
        return text + "binds 2;out 6;";
    }

    private static void lastOfAll() {
        Due.says("6 HELPS, 8 PERSONS at most, numbered from 0 each.");
        String thanked = "p helps w f;w thanks p f;w helps p a;p thanks w a;w helps v f;v thanks w f;w helps v e;"
            + "v thanks w e;";
        NightHelp x = judged(Due.of(largest(9)), "00000000", thanked);
        Due.same("the first to the last", x.bound(0, 7, 5), 2);
        Due.same("the last to the first", x.bound(7, 0, 0), 2);
        Due.same("the last to the last but one", x.bound(7, 6, 5) * 10 + x.bound(7, 6, 4), 22);
        Due.same("bonds of the first", x.came(0, 3), 1);
        Due.same("bonds of the last", x.came(7, 3), 3);
        Due.sentence(x, "bound and not free");
        Due.same("said of both", x.said(), 129);
        judged(x, "000000000", thanked + "year 9;");
        Due.same("BROKEN by the first", x.came(0, 4), 2);
        Due.same("BROKEN by the last", x.came(7, 4), 6);
        judged(x, "00000000000", thanked + "year 1;p helps w f;w helps v f;");
        Due.same("kept by the first", x.came(0, 4), 0);
        Due.same("one kept by the last", x.came(7, 4), 2);
        judged(x, "000000000000", thanked + "p leaves w f;w leaves p a;w leaves v f;w leaves v e;");
        Due.same("nobody is bound", x.came(0, 3) + x.came(7, 3), 0);
        judged(x, "03040", "p helps w f;p helps w f;w helps v f;w thanks p e;w thanks p f;");
        judged(Due.of(largest(1)), "000007", "p helps w f;w thanks p f;p helps q a;w helps v f;v thanks w f;"
            + "q thanks p a;");
        judged(Due.of(largest(1)), "0007", "w helps v f;v thanks w f;w helps v e;v thanks w e;");
    }

    private static void astray() {
        Due.says("ASTRAY: thanks (not WRONG) to one who did not do it.");
        Due.same("to who did it", judged("00", THANKED).judge(1), 0);
        Due.same("to another one", judged("00", "pa helps pc dig;pc thanks pb dig;").judge(1), 1);
        Due.same("each time", judged("000", "pa helps pc dig;pc thanks pb dig;pc thanks pb dig;").judge(1), 2);
        Due.same("WRONG 4", judged("4", "pc thanks pb dig;").judge(1), 0);
        Due.same("WRONG 5", judged("05", "pa helps pc mend;pc thanks pd mend;").judge(1), 0);
        Due.same("WRONG 7", judged("07", "pa helps pc dig;pc thanks pd dig;").judge(1), 0);
        Due.same("who did it a YEAR ago", judged("00000", THANKED + "year 1;pb helps pc dig;pc thanks pa dig;").judge(1),
            1);
        Due.same("who did it by night", judged("00", "pa helps pc dig hidden;pc thanks pa dig;").judge(1), 0);
    }

    private static void broken() {
        Due.says("BROKEN: at the end of a YEAR (with the next 'year', of each YEAR between, too, and with the BOOK)");
        Due.same("with the next 'year'", judged("0000", THANKED + "year 1;year 2;").judge(2), 2);
        Due.same("of each YEAR between", judged("000", THANKED + "year 3;").judge(2), 2);
        Due.same("with the BOOK", judged("000", THANKED + "year 1;").judge(2), 1);
        Due.same("in no YEAR ahead of it", judged("00", THANKED).judge(2), 0);
        Due.same("nor by one who did not do it then", judged("00", "pa helps pc dig;pc thanks pb dig;").judge(2), 0);
        Due.same("nor by another one", judged("00", "pb helps pc dig;pc thanks pa dig;").judge(2), 0);
        Due.same("nor ahead of the first 'year'", judged("000", "year 9;" + THANKED).judge(2), 0);
        Due.same("without a bond", judged("00", "pa helps pc dig;year 99;").judge(2), 0);
        NightHelp x = judged("00000", "pb helps pc mend;" + THANKED + "pc thanks pb mend;year 99;");
        Due.same("all together", x.judge(2), 4);
        Due.same("by each", x.came(0, 4) * 10 + x.came(1, 4), 22);
    }

    private static void brokenOfEachYear() {
        Due.says("each bond to do something in that YEAR that who is bound did not do in it.");
        Due.same("done in both", judged("000000", THANKED + "year 1;pa helps pc dig;year 2;pa helps pc dig;").judge(2), 0);
        Due.same("done by night", judged("00000", THANKED + "year 1;pa helps pc dig hidden;year 2;").judge(2), 1);
        Due.same("done in the first", judged("00000", THANKED + "year 1;pa helps pc dig;year 2;").judge(2), 1);
        Due.same("done in the last", judged("0000", THANKED + "year 2;pa helps pc dig;").judge(2), 1);
        Due.same("done by another one", judged("0000", THANKED + "year 1;pb helps pc dig;").judge(2), 1);
        Due.same("late", judged("00003", THANKED + "year 1;pb helps pc dig;pa helps pc dig;").judge(2), 1);
        Due.same("another HELP", judged("0000", THANKED + "year 1;pa helps pc mend;").judge(2), 1);
        Due.same("for another one",
            judged("0000", "pa helps pc mend;pc thanks pa mend;year 1;pa helps pd mend;").judge(2), 1);
        Due.same("done in the YEAR of the thanks", judged("000", THANKED + "year 1;").judge(2), 1);
        Due.same("left in time", judged("0000", THANKED + "year 1;pa leaves pc dig;").judge(2), 0);
        Due.same("left too late for one", judged("0000", THANKED + "year 2;pa leaves pc dig;").judge(2), 1);
    }

    // ---- GAINED and FELT

    private static void gained() {
        Due.says("GAINED by a PERSON: WORTHS less all that was paid.");
        NightHelp x = judged("000000", "pa helps pd mend hidden;pd thanks pa mend;pa leaves pd mend;pd helps pc dig;"
            + "year 1;pd helps pc dig hidden;");
        Due.same("pa paid PAINS, HIDE, out", x.came(0, 0), -7 - 5 - 6);
        Due.same("pd has WORTH less what was paid", x.came(3, 0), 30 - 9 - 9 - 4);
        Due.same("pc has two WORTHS", x.came(2, 0), 20);
        Due.same("by all", x.judge(3), -18 + 8 + 20);
        Due.same("BROKEN costs nothing", judged("000", THANKED + "year 99;").came(0, 0), -3);
    }

    private static void felt() {
        Due.says("FELT: that, and of each friend N tenths of what the friend GAINED, cut towards 0 each.");
        String village = "help a 19 0;help b 19 0;person p 1 can a 19 can b 19;person q 1 needs a;person r 1 needs b;"
            + "person s 1;friend s q 1;friend s r 1;friend s p 1;friend p q 10;friend q p 9;";
        NightHelp x = judged(Due.of(village), "00", "p helps q a;p helps r b;");
        Due.same("p GAINED", x.came(0, 0), -38);
        // 1.9 and 1.9 and -3.8, cut each: 1, 1, -3
        Due.same("cut towards 0 each", x.came(3, 1), 1 + 1 - 3);
        Due.same("ten tenths, and one's own", x.came(0, 1), -38 + 19);
        // 19 and nine tenths of -38: -34.2
        Due.same("below 0 cut upwards", x.came(1, 1), 19 - 34);
        Due.same("no friend", x.came(2, 1), 19);
        x = judged(Due.of(village), "0", "p helps q a;");
        Due.same("friendship goes one way", x.came(1, 1), 19 - 17);
        Due.same("of p and q", x.came(3, 1), 1 - 1);
    }
}
