/** "==== 3." of the document, the SENTENCE: each sentence with what is allowed last and what is not first. */
final class SentenceEdgesTest {
    private static final String VILLAGE = "help dig 10 4;person pa 9 can dig 3;person pb 9 needs dig;"
        + "person pc 9 can dig 5;person pd 9;friend pd pb 5;binds 2;out 6;";
    /** GAINED -3, 10, -6, 0; FELT as much, but 5 by pd; helped 1, 0, 0, 0; bonds 1, 0, 0, 0; BROKEN 1, 0, 0, 0. */
    private static final String BOOK = "pa helps pb dig;pb thanks pa dig;pb thanks pc dig;pc leaves pb dig;year 1;";

    private SentenceEdgesTest() {
    }

    public static void main(String[] args) {
        bytesAtMost();
        atLeastOne();
        ends();
        ones();
        brackets();
        numbers();
        signs();
        onesAtMost();
        withinOneAnother();
        leastOfOneToken();
        andAheadOfOr();
        notOne();
        boundAtTheEnd();
        free();
        gained();
        felt();
        helped();
        bonds();
        broken();
        ofPersons();
        behindTheBook();
        Due.finish();
    }

    private static NightHelp judged() {
        NightHelp x = Due.of(VILLAGE);
        Due.bookLines(x, 5, BOOK);
        return x;
    }

    private static void due(NightHelp x, int people, String sentence) {
        Due.sentence(x, sentence);
        Due.same("fault of " + sentence, x.fault(), 0);
        Due.same("said: " + sentence, x.said(), people);
    }

    // ---- the text

    private static void bytesAtMost() {
        Due.says("A SENTENCE is a text of at most 200 bytes:");
        NightHelp x = Due.of(VILLAGE);
        Due.sentenceOnes(x, 1, Due.blanks("free", 199));
        Due.sentenceOnes(x, 1, Due.blanks("free", 200));
        Due.sentenceFault(x, 1, Due.blanks("free", 200) + "^ ");
        Due.sentenceFault(x, 1, Due.blanks("free", 200) + "^\n");
        Due.sentenceFault(x, 1, Due.blanks("free", 200) + "^" + Due.repeat(" ", 740));
        Due.sentenceFault(x, 1, Due.blanks("free", 200) + "^and bound");
        Due.sentenceOnes(x, 2, Due.blanks("free or", 196) + "free");
        Due.sentenceFault(x, 1, Due.blanks("free or", 197) + "fre^e");
        Due.sentenceFault(x, 1, Due.blanks("free or", 199) + "^bounde");
        Due.sentenceFault(x, 1, Due.blanks("gained <", 199) + "^1000");
        Due.sentenceFault(x, 1, Due.blanks("gained <", 199) + "9^99");
        NightHelp y = Due.of(VILLAGE);
        Due.sentenceOnes(y, 1, Due.blanks("gained <", 199) + "9");
        Due.same("by 200 bytes", y.said(), 15);
        Due.sentenceFault(y, 1, Due.blanks("(free", 200) + "^)");
        Due.sentenceOnes(y, 2, Due.blanks("(free", 199) + ")");
        Due.sentenceFault(y, 4, Due.blanks(Due.repeat("not ", 8), 199) + "^free");
    }

    private static void atLeastOne() {
        Due.says("COND: ALL { 'or' ALL }. ALL: ONE { 'and' ONE }.");
        NightHelp x = Due.of(VILLAGE);
        Due.sentenceFault(x, 1, "^");
        Due.sentenceFault(x, 1, "   ^");
        Due.sentenceFault(x, 1, Due.repeat(" ", 200) + "^");
        Due.sentenceFault(x, 1, "^or free");
        Due.sentenceFault(x, 1, "^and free");
        Due.sentenceFault(x, 1, "free or^");
        Due.sentenceFault(x, 1, "free and^");
        Due.sentenceFault(x, 1, "free or ^or free");
        Due.sentenceFault(x, 1, "free and ^or free");
        Due.sentenceFault(x, 1, "free or ^and free");
        Due.sentenceFault(x, 1, "free ^free");
        Due.sentenceOnes(x, 4, "free or free and free or free");
    }

    private static void ends() {
        Due.says("FAULTS: 1, 4 a 21st ONE, a ninth within (at its first TOKEN).");
        String[] begun = {"not", "not not", "(", "(free", "(free or", "free and", "free or not", "gained", "gained <",
            "not gained =", "((free)"};
        for (String text : begun) {
            NightHelp x = Due.of(VILLAGE);
            Due.sentenceFault(x, 1, text + "^");
            Due.sentenceFault(x, 1, text + " \n ^");
            Due.sentenceFault(x, 1, Due.blanks(text, 200) + "^ ");
            Due.same("no SENTENCE", x.said(), -1);
        }
    }

    private static void ones() {
        Due.says("ONE: 'not' ONE | ( COND ) |");
        NightHelp x = Due.of(VILLAGE);
        for (String word : new String[] {"bound", "free"}) {
            Due.sentenceOnes(x, 1, word);
            Due.sentenceFault(x, 1, word + " ^< 5");
        }
        for (String word : new String[] {"gained", "felt", "helped", "bonds", "broken"}) {
            Due.sentenceOnes(x, 1, word + " < 5");
            Due.sentenceFault(x, 1, word + " ^5");
            Due.sentenceFault(x, 1, word + "^");
        }
        NightHelp y = Due.of(VILLAGE);
        String[] not = {"help", "person", "can", "needs", "friend", "sees", "binds", "out", "gift", "year", "helps", "hidden",
            "thanks", "leaves", "or", "and", "pa", "dig", "zz", "5", "<", "=", ">", ")", ";"};
        for (String token : not) {
            Due.sentenceFault(y, 1, "^" + token);
            Due.sentenceFault(y, 1, "free or ^" + token);
            Due.sentenceFault(y, 1, "not ^" + token);
        }
    }

    private static void brackets() {
        Due.says("ONE: 'not' ONE | ( COND ) |");
        NightHelp x = Due.of(VILLAGE);
        Due.sentenceOnes(x, 2, "(free)");
        Due.sentenceOnes(x, 4, "(free or bound) and free");
        Due.sentenceFault(x, 1, "(^)");
        Due.sentenceFault(x, 1, "^)");
        Due.sentenceFault(x, 1, "free^)");
        Due.sentenceFault(x, 1, "(free)^)");
        Due.sentenceFault(x, 1, "(free ^(free))");
        Due.sentenceFault(x, 1, "(free ^not free)");
        Due.sentenceFault(x, 1, "(free) ^free");
        Due.sentenceFault(x, 1, "(free ^;");
    }

    private static void numbers() {
        Due.says("SIGN NUMBER (helps done; bonds at the end; bonds that were BROKEN).");
        NightHelp x = Due.of(VILLAGE);
        Due.sentenceOnes(x, 1, "gained = 0");
        Due.sentenceOnes(x, 1, "gained = 000");
        Due.sentenceOnes(x, 1, "gained = 999");
        Due.sentenceFault(x, 1, "gained = ^1000");
        Due.sentenceFault(x, 1, "gained = ^0000");
        Due.sentenceFault(x, 1, "gained = ^-1");
        Due.sentenceFault(x, 1, "gained = ^free");
        Due.sentenceFault(x, 1, "gained = 5 ^5");
    }

    private static void signs() {
        Due.says("SIGN: < = >.");
        NightHelp x = judged();
        due(x, 13, "gained < 10");
        due(x, 15, "gained < 11");
        due(x, 2, "gained = 10");
        due(x, 0, "gained = 11");
        due(x, 0, "gained > 10");
        due(x, 2, "gained > 9");
        Due.sentenceFault(x, 1, "gained < ^= 5");
        Due.sentenceFault(x, 1, "gained ^( 5");
        Due.sentenceFault(x, 1, "gained ^) 5");
        Due.sentenceFault(x, 1, "gained ^; 5");
        Due.sentenceFault(x, 1, "gained ^! 5");
    }

    private static void onesAtMost() {
        Due.says("20 ONES, 8 within one another.");
        NightHelp x = Due.of(VILLAGE);
        String nineteen = "free" + Due.repeat(" or free", 18);
        Due.sentenceOnes(x, 19, nineteen);
        Due.sentenceOnes(x, 20, nineteen + " or bound");
        Due.sentenceOnes(x, 20, nineteen + " and gained < 5");
        Due.sentenceFault(x, 4, nineteen + " or bound or ^free");
        Due.sentenceFault(x, 4, nineteen + " or bound and ^gained < 5");
        Due.sentenceFault(x, 4, nineteen + " or bound and ^(free)");
        Due.sentenceFault(x, 4, nineteen + " or not ^free");
        Due.sentenceFault(x, 4, nineteen + " or (^free)");
        Due.sentenceFault(x, 4, nineteen + " or bound or ^not");
        NightHelp y = Due.of(VILLAGE);
        Due.sentenceOnes(y, 20, "not free" + Due.repeat(" or(bound)", 9));
        Due.sentenceFault(y, 4, "not free" + Due.repeat(" or(bound)", 9) + " or ^free");
        // the count begins anew with each SENTENCE
        Due.sentenceOnes(y, 20, nineteen + " or bound");
    }

    private static void withinOneAnother() {
        Due.says("20 ONES, 8 within one another.");
        NightHelp x = Due.of(VILLAGE);
        Due.sentenceOnes(x, 8, "(((((((free)))))))");
        Due.sentenceFault(x, 4, "((((((((^free))))))))");
        Due.sentenceOnes(x, 8, Due.repeat("not ", 7) + "free");
        Due.sentenceFault(x, 4, Due.repeat("not ", 8) + "^free");
        Due.sentenceOnes(x, 8, "not(not(not(not free)))");
        Due.sentenceFault(x, 4, Due.repeat("not(", 4) + "^free))))");
        Due.sentenceFault(x, 4, Due.repeat("(not ", 4) + "^(free)))))");
        Due.sentenceOnes(x, 9, "(((((((free and bound)))))))");
        Due.sentenceFault(x, 4, "(((((((free and (^bound))))))))");
        Due.sentenceFault(x, 4, "(((((((free or not ^bound)))))))");
        Due.sentenceOnes(x, 16, "(((((((free)))))))or(((((((bound)))))))");
        Due.sentenceFault(x, 4, "(((((((free)))))))or((((((((^bound))))))))");
    }

    private static void leastOfOneToken() {
        Due.says("FAULTS, the first along the text, of one TOKEN the least");
        NightHelp x = Due.of(VILLAGE);
        String twenty = "free" + Due.repeat(" or free", 19);
        Due.sentenceFault(x, 1, twenty + " or ^or");
        Due.sentenceFault(x, 1, twenty + " or ^zz");
        Due.sentenceFault(x, 1, twenty + " or^");
        Due.sentenceFault(x, 1, twenty + " ^free");
        Due.sentenceFault(x, 1, Due.repeat("not ", 8) + "^and");
        Due.sentenceFault(x, 1, Due.repeat("not ", 8) + "^)");
        Due.sentenceFault(x, 1, Due.repeat("(", 8) + "^)");
        Due.sentenceFault(x, 1, Due.repeat("(", 8) + "^");
        Due.sentenceFault(x, 4, Due.repeat("(", 8) + "^gained");
        Due.sentenceFault(x, 4, twenty + " or ^gained 1000");
    }

    // ---- of whom it may be said

    private static void andAheadOfOr() {
        Due.says("COND: ALL { 'or' ALL }. ALL: ONE { 'and' ONE }.");
        NightHelp x = judged();
        due(x, 2, "gained = 10 or gained = 0 and bound");
        due(x, 0, "(gained = 10 or gained = 0) and bound");
        due(x, 3, "bound or gained = 10 and free");
        due(x, 3, "bound and helped = 1 or free and gained = 10");
        due(x, 0, "bound and free and gained = 10 and felt = 5");
        due(x, 11, "bound or free or gained = 10");
    }

    private static void notOne() {
        Due.says("ONE: 'not' ONE | ( COND ) |");
        NightHelp x = judged();
        due(x, 5, "not free");
        due(x, 10, "not not free");
        due(x, 0, "not free and free");
        due(x, 15, "not free or free");
        due(x, 14, "not (bound or bound)");
        due(x, 4, "not bound and not free");
    }

    private static void boundAtTheEnd() {
        Due.says("'bound' (to something at the end)");
        NightHelp x = Due.of(VILLAGE);
        due(x, 0, "bound");
        String thanked = "pa helps pb dig;pb thanks pa dig;";
        Due.book(x, thanked);
        Due.same("by thanks in the last YEAR", x.said(), 1);
        Due.book(x, thanked + "year 1;");
        Due.same("for one YEAR more", x.said(), 1);
        Due.book(x, thanked + "year 2;");
        Due.same("no YEAR more", x.said(), 0);
        Due.book(x, thanked + "year 3;");
        Due.same("no more", x.said(), 0);
        Due.book(x, "pa helps pb dig;pb thanks pc dig;");
        Due.same("another one", x.said(), 4);
        Due.book(x, thanked + "pa leaves pb dig;");
        Due.same("left", x.said(), 0);
    }

    private static void free() {
        Due.says("'free' (never was bound to anything)");
        NightHelp x = Due.of(VILLAGE);
        due(x, 15, "free");
        String thanked = "pa helps pb dig;pb thanks pa dig;";
        Due.book(x, thanked);
        Due.same("thanked in the last YEAR", x.said(), 14);
        Due.book(x, thanked + "year 99;");
        Due.same("bound once", x.said(), 14);
        Due.book(x, thanked + "pa leaves pb dig;");
        Due.same("left at once", x.said(), 14);
        Due.book(x, "pa helps pb dig;pb thanks pd dig;pc leaves pb dig;");
        Due.same("by WRONG LINES", x.said(), 15);
        Due.book(x, "pa helps pb dig;pb thanks pc dig;");
        Due.same("thanked astray", x.said(), 11);
    }

    private static void gained() {
        Due.says("( 'gained' | 'felt' | 'helped' | 'bonds' | 'broken' ) SIGN NUMBER");
        NightHelp x = judged();
        due(x, 8, "gained = 0");
        due(x, 5, "gained < 0");
        due(x, 2, "gained > 0");
        due(x, 0, "gained = 6");
        due(x, 0, "gained = 3");
        due(x, 15, "gained < 999");
    }

    private static void felt() {
        Due.says("( 'gained' | 'felt' | 'helped' | 'bonds' | 'broken' ) SIGN NUMBER");
        NightHelp x = judged();
        due(x, 8, "felt = 5");
        due(x, 2, "felt = 10");
        due(x, 0, "felt = 0");
        due(x, 10, "felt > 4");
        due(x, 2, "felt > 5");
    }

    private static void helped() {
        Due.says("(helps done; bonds at the end; bonds that were BROKEN).");
        NightHelp x = judged();
        due(x, 1, "helped = 1");
        due(x, 14, "helped = 0");
        due(x, 0, "helped > 1");
    }

    private static void bonds() {
        Due.says("(helps done; bonds at the end; bonds that were BROKEN).");
        NightHelp x = judged();
        due(x, 1, "bonds = 1");
        due(x, 14, "bonds < 1");
        due(x, 0, "bonds > 1");
    }

    private static void broken() {
        Due.says("(helps done; bonds at the end; bonds that were BROKEN).");
        NightHelp x = judged();
        due(x, 1, "broken = 1");
        due(x, 14, "broken < 1");
        Due.book(x, BOOK + "year 99;");
        due(x, 1, "broken = 2");
        due(x, 0, "broken > 2");
    }

    private static void ofPersons() {
        Due.says("It is said of PERSONS behind the BOOK.");
        String eight = "person a 1;person b 1;person c 1;person d 1;person e 1;person f 1;person g 1;person h 1;";
        due(Due.of(eight), 255, "free");
        due(Due.of(eight), 0, "not free");
        due(Due.of(eight), 255, "gained = 0");
        due(Due.of("person a 1;"), 1, "not bound");
        due(new NightHelp(), 0, "free");
        due(new NightHelp(), 0, "not free");
        due(new NightHelp(), 0, "gained = 0");
    }

    private static void behindTheBook() {
        Due.says("It is said of PERSONS behind the BOOK.");
        NightHelp x = Due.of(VILLAGE);
        due(x, 0, "helped > 0");
        Due.book(x, BOOK);
        Due.same("behind a BOOK that came later", x.said(), 1);
        Due.book(x, "pc helps pb dig;");
        Due.same("behind the next one", x.said(), 4);
        Due.book(x, "pa helps pa dig;");
        Due.same("a faulty one changes nothing", x.said(), 4);
        Due.book(x, "");
        Due.same("behind an empty one", x.said(), 0);
    }
}
