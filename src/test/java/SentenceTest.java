/** Promises 28 to 31: sentences, of whom they may be said, and images. */
final class SentenceTest {
    private static final String VILLAGE = "help dig 10 4;person pa 1 can dig 3;person pb 0 needs dig;"
        + "person pc 2 can dig 5;friend pc pa 10;friend pc pb 5;binds 2;";
    /** pa: gained -3, helped 1, two bonds broken; pb: 10; pc: gained 0, felt 2, bound at the end. */
    private static final String BOOK = "pa helps pb dig;pb thanks pa dig;pb thanks pc dig;year 2;pc leaves pb dig;";

    private SentenceTest() {
    }

    public static void main(String[] args) {
        ones();
        faults();
        many();
        within();
        length();
        said();
        saidOfTheBookNow();
        image();
        restore();
        Due.finish();
    }

    private static void ones() {
        NightHelp x = Due.of(VILLAGE);
        Due.same("one", Due.sentence(x, "bound"), 1);
        Due.same("two", Due.sentence(x, "not free"), 2);
        Due.same("bracket", Due.sentence(x, "(bound)"), 2);
        Due.same("and, or", Due.sentence(x, "bound and free or bound and gained<5"), 4);
        Due.same("all", Due.sentence(x, "not (not(felt = 999 or helped>0)and bonds < 1)or\nbroken=000"), 8);
        Due.same("tape is empty", x.count(7), 0);
        Due.same("a fault", Due.sentence(x, "bound or"), -9);
        Due.same("tape is empty then", x.count(7), 0);
        Due.same("the sentence before stays", x.said(), 7);
    }

    private static void faults() {
        NightHelp x = Due.of(VILLAGE);
        Due.sentenceFault(x, 1, "^");
        Due.sentenceFault(x, 1, "  ^");
        Due.sentenceFault(x, 1, "^pa");
        Due.sentenceFault(x, 1, "^zz");
        Due.sentenceFault(x, 1, "^5");
        Due.sentenceFault(x, 1, "^helps");
        Due.sentenceFault(x, 1, "^and bound");
        Due.sentenceFault(x, 1, "^)");
        Due.sentenceFault(x, 1, "(^)");
        Due.sentenceFault(x, 1, "(bound^");
        Due.sentenceFault(x, 1, "(bound ^;");
        Due.sentenceFault(x, 1, "bound^)");
        Due.sentenceFault(x, 1, "bound ^free");
        Due.sentenceFault(x, 1, "bound ^not free");
        Due.sentenceFault(x, 1, "bound^;");
        Due.sentenceFault(x, 1, "bound and ^or free");
        Due.sentenceFault(x, 1, "bound ^< 3");
        Due.sentenceFault(x, 1, "gained ^3");
        Due.sentenceFault(x, 1, "gained ^; 3");
        Due.sentenceFault(x, 1, "gained ^( 3");
        Due.sentenceFault(x, 1, "gained^");
        Due.sentenceFault(x, 1, "gained < ^bound");
        Due.sentenceFault(x, 1, "gained < ^= 3");
        Due.sentenceFault(x, 1, "gained < ^1000");
        Due.sentenceFault(x, 1, "gained < 5 ^6");
        Due.sentenceFault(x, 1, "not^");
        Due.sentenceFault(x, 1, "^.");
        Due.same("no sentence yet", x.said(), -1);
    }

    private static void many() {
        NightHelp x = Due.of(VILLAGE);
        String twenty = "bound" + Due.repeat(" or free", 19);
        Due.same("twenty", Due.sentence(x, twenty), 20);
        Due.sentenceFault(x, 4, twenty + " or ^free");
        Due.sentenceFault(x, 4, twenty + " and ^(free)");
        Due.sentenceFault(x, 4, twenty + " or ^not");
        Due.sentenceFault(x, 1, twenty + " or ^and");
        Due.sentenceFault(x, 1, twenty + " ^free");
        Due.same("brackets count", Due.sentence(x, "(((((bound)))))" + Due.repeat("or(free)", 7)), 20);
        Due.sentenceFault(x, 4, "(((((bound)))))" + Due.repeat("or(free)", 7) + "or ^free");
        Due.sentenceFault(x, 4, "(((((bound)))))" + Due.repeat("or not free ", 7) + "or ^bound");
    }

    private static void within() {
        NightHelp x = Due.of(VILLAGE);
        Due.same("eight", Due.sentence(x, "((((((( free )))))))"), 8);
        Due.same("eight", Due.sentence(x, Due.repeat("not ", 7) + "free"), 8);
        Due.sentenceFault(x, 4, "(((((((( ^free ))))))))");
        Due.sentenceFault(x, 4, Due.repeat("not ", 8) + "^free");
        Due.sentenceFault(x, 4, Due.repeat("not(", 4) + "^not free))))");
        Due.sentenceFault(x, 4, Due.repeat("not ", 8) + "^not ");
        Due.sentenceFault(x, 1, Due.repeat("not ", 8) + "^or");
        Due.sentenceFault(x, 1, Due.repeat("not ", 8) + "^".trim());
        Due.same("each for itself", Due.sentence(x, "(((((((bound)))))))or(((((((free)))))))"), 16);
    }

    private static void length() {
        NightHelp x = Due.of(VILLAGE);
        Due.same("200 bytes", Due.sentence(x, Due.blanks("free", 200)), 1);
        Due.same("all are free", x.said(), 7);
        Due.sentenceFault(x, 1, Due.blanks("free", 200) + "^ ");
        Due.sentenceFault(x, 1, Due.blanks("free", 200) + "^ or bound");
        Due.sentenceFault(x, 1, Due.blanks("free or", 199) + "b^ound");
        Due.sentenceFault(x, 1, Due.blanks("free or", 199) + "^bounds");
        Due.sentenceFault(x, 1, Due.blanks("free or", 199) + "^boundary");
        Due.same("200 with a word at the end", Due.sentence(x, Due.blanks("free or", 195) + "bound"), 2);
        Due.same("all are free", x.said(), 7);
    }

    private static void due(NightHelp x, String sentence, int people) {
        Due.sentence(x, sentence);
        Due.same("fault of " + sentence, x.fault(), 0);
        Due.same("said: " + sentence, x.said(), people);
    }

    private static void said() {
        NightHelp x = Due.of(VILLAGE);
        Due.same("no sentence", x.said(), -1);
        due(x, "free", 7);
        due(x, "bound", 0);
        Due.same("book", Due.book(x, BOOK), 5);
        due(x, "bound", 0);
        due(x, "free", 2);
        due(x, "not free", 5);
        due(x, "gained < 0", 5);
        due(x, "gained = 10", 2);
        due(x, "gained < 10", 5);
        due(x, "gained < 11", 7);
        due(x, "gained > 9", 2);
        due(x, "gained > 10", 0);
        due(x, "felt = 0", 0);
        due(x, "helped = 1", 1);
        due(x, "bonds > 0", 0);
        due(x, "broken = 2", 1);
        due(x, "broken = 1", 4);
        due(x, "broken > 0", 5);
        due(x, "free or helped > 0 and gained > 0", 2);
        due(x, "(free or helped > 0) and gained > 0", 2);
        due(x, "helped > 0 or gained > 0 and broken > 0", 1);
        due(x, "(helped > 0 or gained > 0) and broken > 0", 1);
        due(x, "helped > 0 or gained > 0 and free", 3);
        due(x, "not helped > 0 and gained < 0", 4);
        due(x, "not (helped > 0 or gained < 0)", 2);
        due(x, "not not free", 2);
        Due.book(x, "pa helps pb dig;pb thanks pa dig;pb thanks pc dig;year 1;");
        due(x, "bound", 5);
        due(x, "bonds = 1", 5);
        due(x, "broken = 1", 5);
        Due.same("of nobody", Due.sentence(Due.of(""), "free"), 1);
        NightHelp y = new NightHelp();
        due(y, "free", 0);
    }

    private static void saidOfTheBookNow() {
        NightHelp x = Due.of(VILLAGE);
        due(x, "helped > 0", 0);
        Due.book(x, BOOK);
        Due.same("behind the book", x.said(), 1);
        Due.book(x, "pc helps pb dig;");
        Due.same("behind the next book", x.said(), 4);
        Due.book(x, "year 100;");
        Due.same("behind a faulty book", x.said(), 4);
        Due.same("said changes no fault", x.fault(), 2);
    }

    private static void image() {
        NightHelp x = Due.of(VILLAGE);
        Due.same("place -1", x.image(-1), false);
        Due.same("place 2", x.image(2), false);
        Due.same("nothing kept", x.restore(0), false);
        Due.same("kept", x.image(1), true);
        Due.same("nothing kept in 0", x.restore(0), false);
        Due.same("place 2", x.restore(2), false);
        Due.same("place -1", x.restore(-1), false);
        Due.same("back", x.restore(1), true);
        Due.same("as it was", x.count(1), 3);
    }

    private static void restore() {
        NightHelp x = new NightHelp();
        x.image(1);
        Due.village(x, VILLAGE);
        Due.book(x, BOOK);
        Due.sentence(x, "helped > 0");
        x.ways(0, 2, 1);
        x.image(0);
        x.run(2, 7);
        x.left(1);
        x.think(1, 0, 0, 0);
        x.ways(0, 4, 3);
        Due.book(x, "pc helps pb dig;");
        Due.sentence(x, "free");
        Due.feed(x, "out 5");
        Due.same("restore 0", x.restore(0), true);
        Due.same("the tape stays", x.count(7), 5);
        Due.same("the book", x.count(3), 5);
        Due.same("who did it", x.came(0, 2), 1);
        Due.same("broken", x.judge(2), 3);
        Due.same("bonds", x.bound(2, 1, 0), 0);
        Due.same("the sentence", x.said(), 1);
        Due.same("helping", x.person(0, 3), 2);
        Due.same("thanking", x.person(0, 4), 1);
        x.end(0);
        Due.same("names are known", Due.book(x, "pc helps pb dig;"), 1);
        Due.same("restore 1", x.restore(1), true);
        Due.same("nobody", x.count(1), 0);
        Due.same("no sentence", x.said(), -1);
        Due.same("no book", x.count(3), 0);
        Due.same("the run stays", x.runOf(2), 0);
        Due.same("left stays", x.leftBy(0), 0);
        Due.same("thinking stays", x.thinkOf(2, 0), 6);
        Due.same("restore 0 again", x.restore(0), true);
        Due.same("as first kept", x.count(3), 5);
        x.ways(1, 1, 1);
        Due.book(x, "");
        Due.same("restore 0 again", x.restore(0), true);
        Due.same("what was kept did not change", x.person(1, 3), 0);
        Due.same("what was kept did not change", x.count(3), 5);
        Due.village(x, "");
        x.image(0);
        x.restore(1);
        x.restore(0);
        Due.same("kept anew", x.count(1), 0);
    }
}
