import java.util.function.Consumer;

/** "Promise 1" to "Promise 32" of the document: who and what there is not, and that what is refused changes nothing. */
final class CallEdgesTest {
    private static final String VILLAGE = "help dig 10 4;help mend 30 5;person pa 1 can dig 3 can mend 7;"
        + "person pb 2 needs dig needs mend;person pc 0 can dig 5 needs mend;friend pa pb 5;sees pb pa 4;sees pc pa 10;"
        + "binds 2;out 6;gift 8;";
    private static final String BOOK = "pa helps pb dig;pb thanks pa dig;year 1;pc helps pb dig hidden;";
    private static final String SENTENCE = "helped > 0 and not bound";
    private static final int[] NO = {-1, Integer.MIN_VALUE, Integer.MAX_VALUE};

    private CallEdgesTest() {
    }

    public static void main(String[] args) {
        calls512();
        newObject();
        feed();
        feedBytes();
        end();
        village();
        villageRefused();
        newVillage();
        tapeIsEmptyThen();
        throwing();
        fault();
        help();
        person();
        need();
        tie();
        book();
        wrong();
        judge();
        came();
        bound();
        found();
        pair();
        best();
        does();
        willing();
        ways();
        run();
        runBy();
        runByWhat();
        runOf();
        left();
        leftBy();
        think();
        thinkOf();
        sentence();
        said();
        image();
        restore();
        keptApart();
        keptWhole();
        restoreLeaves();
        count();
        askingChangesNothing();
        Due.finish();
    }

    /** Has a VILLAGE, ways, a BOOK, a SENTENCE, a RUN, who is left, a THINK, an image in 0, and a tape. */
    private static NightHelp full() {
        NightHelp x = Due.of(VILLAGE);
        Due.bookLines(x, 4, BOOK);
        Due.sentenceOnes(x, 3, SENTENCE);
        x.image(0);
        Due.same("ways", x.ways(0, 2, 1) && x.ways(1, 4, 3) && x.ways(2, 1, 2), true);
        Due.same("a RUN", x.run(3, 7), 9);
        Due.same("left", x.left(1), 2);
        Due.same("think", x.think(1, 0, 4, 0), 0);
        Due.village(x, "help dig 1 0;help dig");
        Due.feed(x, "year 7;");
        return x;
    }

    /** The calls are refused: nothing else is shown then, and the tape and the image are as they were. */
    private static void refused(String what, Consumer<NightHelp> calls) {
        NightHelp x = full();
        Shown before = Shown.by(x);
        calls.accept(x);
        before.stays(what, x);
        Due.same(what + ": the tape was", x.book(), 1);
        Due.same(what + ": the year was", Due.book(x, "year 7;"), 1);
        Due.same(what + ": the image was", x.restore(0) && !x.restore(1), true);
        Due.same(what + ": its BOOK", x.count(3) * 10 + x.person(0, 3), 40);
    }

    private static void none(String what, Consumer<NightHelp> call) {
        refused(what, x -> Due.none(what, () -> {
            call.accept(x);
            return 0;
        }));
    }

    // ---- the object

    private static void calls512() {
        Due.says("An object is used for at most 512 calls after it has been made;");
        NightHelp x = new NightHelp();
        x.feed(0x6f757420, 0x373b2020, 0x20202020, 0x20202020, 0x20202020);
        x.village();
        for (int call = 3; call <= 510; call++) {
            Due.same("call " + call, x.count(5), 7);
        }
        Due.same("call 511", x.feed(0x6f757420, 0x383b2020, 0x20202020, 0x20202020, 0x20202020), 20);
        Due.same("call 512", x.village(), 1);
    }

    private static void newObject() {
        Due.says("An empty VILLAGE; an empty tape.");
        NightHelp x = new NightHelp();
        int[] counts = {0, 0, 0, 0, 3, 50, 10, 0};
        for (int what = 0; what < counts.length; what++) {
            Due.same("count(" + what + ")", x.count(what), counts[what]);
        }
        Due.same("fault()", x.fault(), 0);
        Due.same("said()", x.said(), -1);
        Due.same("wrong(0)", x.wrong(0), -1);
        Due.same("need(0, 0)", x.need(0, 0), -1);
        Due.same("tie(0, 0, 0)", x.tie(0, 0, 0), -1);
        Due.same("bound(0, 0, 0)", x.bound(0, 0, 0), -1);
        Due.same("ways(0, 0, 0)", x.ways(0, 0, 0), false);
        for (int what = 0; what < 5; what++) {
            Due.same("judge(" + what + ")", x.judge(what), 0);
        }
        Due.none("help(0, 0)", () -> x.help(0, 0));
        Due.none("person(0, 0)", () -> x.person(0, 0));
        Due.same("end(0)", x.end(0), true);
        Due.same("village()", x.village(), 0);
        Due.same("book()", x.book(), 0);
        Due.same("run(1, 1)", x.run(1, 1), 0);
        Due.same("left(9)", x.left(9), 0);
        NightHelp y = new NightHelp();
        NightHelp z = Due.of(VILLAGE);
        Due.same("another object's VILLAGE", y.count(1), 0);
        Due.same("is not this one's", z.count(1), 3);
    }

    // ---- the tape

    private static void feed() {
        Due.says("how many it has; NONE, and none come, if it would have more than 940.");
        NightHelp x = new NightHelp();
        for (int bytes = 20; bytes <= 940; bytes += 20) {
            Due.same("feed to " + bytes, x.feed(0x20202020, 0, -1, 7, 9), bytes);
        }
        Due.same("feed beyond 940", x.feed(0, 0, 0, 0, 0), -1);
        Due.same("as many as before", x.count(7), 940);
        x.end(921);
        Due.same("feed to 941", x.feed(0, 0, 0, 0, 0), -1);
        Due.same("as many as before", x.count(7), 921);
        x.end(920);
        Due.same("feed to 940", x.feed(0, 0, 0, 0, 0), 940);
        NightHelp y = Due.of("help dig 1 1;");
        Due.feed(y, Due.blanks("year 5;", 921));
        Due.same("refused", y.feed(0x78787878, 0, 0, 0, 0), -1);
        Due.same("the bytes stay", y.end(700), true);
        Due.same("they are a BOOK", y.book(), 1);
        refused("feed with a full tape", z -> {
            Due.feed(z, Due.repeat(" ", 914));
            Due.same("a full tape", z.count(7), 921);
            Due.same("feed", z.feed(1, 2, 3, 4, 5), -1);
            Due.same("as full", z.count(7), 921);
            z.end(7);
        });
    }

    private static void feedBytes() {
        Due.says("Twenty bytes come behind the tape, of each number the highest first:");
        NightHelp x = new NightHelp();
        Due.same("feed", x.feed(0x68656c70, 0x20616263, 0x20393920, 0x39383b6f, 0x75742037), 20);
        Due.same("feed", x.feed(0x37373b0a, 0x20202020, 0x20202020, 0x20202020, 0x20202020), 40);
        Due.same("village", x.village(), 2);
        Due.same("WORTH and HIDE", x.help(0, 0) * 100 + x.help(0, 1), 9998);
        Due.same("out", x.count(5), 777);
        for (int place = 0; place < 20; place++) {
            int[] w = {0x20202020, 0x20202020, 0x20202020, 0x20202020, 0x20202020};
            w[place / 4] ^= 128 << 24 - place % 4 * 8;
            NightHelp y = new NightHelp();
            y.feed(w[0], w[1], w[2], w[3], w[4]);
            Due.same("a byte above 127 at " + place, y.village(), -1 - place);
        }
    }

    private static void end() {
        Due.says("The tape has its first n bytes alone: true; false, if it has not so many, or n is below 0.");
        NightHelp x = new NightHelp();
        Due.same("end(0) of none", x.end(0), true);
        Due.same("end(1) of none", x.end(1), false);
        Due.feed(x, "out 77;gift 5;");
        Due.same("end(15) of 14", x.end(15), false);
        Due.same("end(14) of 14", x.end(14), true);
        Due.same("end(7)", x.end(7), true);
        Due.same("end(8) of 7", x.end(8), false);
        Due.same("7 bytes", x.count(7), 7);
        Due.feed(x, "gift 6;");
        Due.same("two LINES", x.village(), 2);
        Due.same("what came behind", x.count(6), 6);
        Due.same("the first bytes", x.count(5), 77);
        refused("end of what is not there", z -> {
            for (int n : NO) {
                Due.same("end(" + n + ")", z.end(n), false);
            }
            Due.same("end(8) of 7", z.end(8), false);
            Due.same("end(940) of 7", z.end(940), false);
        });
        NightHelp y = Due.of("out 5;");
        Due.feed(y, "gift 5;");
        Due.same("end(0)", y.end(0), true);
        Due.same("an empty tape", y.village(), 0);
    }

    // ---- the VILLAGE

    private static void village() {
        Due.says("is the VILLAGE now: how many LINES; -1 less the place of a FAULT: the VILLAGE before stays.");
        NightHelp x = new NightHelp();
        Due.same("none", Due.village(x, ""), 0);
        Due.same("one", Due.village(x, "out 5;"), 1);
        Due.same("many", Due.village(x, VILLAGE), 11);
        Due.same("a FAULT at 0", Due.village(x, "x"), -1);
        Due.same("a FAULT at 1", Due.village(x, " x"), -2);
        Due.same("a FAULT at 900", Due.village(x, Due.repeat(" ", 901)), -901);
        Due.same("still", x.count(1), 3);
    }

    private static void villageRefused() {
        Due.says("-1 less the place of a FAULT: the VILLAGE before stays.");
        String[] texts = {"x", "help dig 1 0;help dig", "person pz 1;person py 1;friend pz py 11;",
            "help a 1 1;person p 5 can a 9 needs a;person q 5 needs a;friend p q 3;sees q p 3;binds 5;out 5;gift 5;gift",
            "help a 1 1;help b 1 1;help c 1 1;help d 1 1;help e 1 1;help f 1 1;help g 1 1;"};
        for (String text : texts) {
            NightHelp x = full();
            Shown before = Shown.by(x);
            x.end(0);
            Due.same("a FAULT", Due.village(x, text) < 0, true);
            before.stays("village " + text, x, "fault()", "count(7)");
            Due.same("its NAMES are told", Due.book(x, BOOK), 4);
        }
    }

    private static void newVillage() {
        Due.says("A new VILLAGE has no BOOK, no SENTENCE; all ways are 0.");
        NightHelp x = full();
        Due.same("the same VILLAGE anew", villageOf(x, VILLAGE), 11);
        Due.same("no BOOK", x.count(3), 0);
        Due.same("no LINE", x.wrong(0), -1);
        for (int what = 0; what < 5; what++) {
            Due.same("judge(" + what + ")", x.judge(what), 0);
            Due.same("came(0, " + what + ")", x.came(0, what), 0);
        }
        Due.same("no bond", x.bound(0, 1, 0), 0);
        Due.same("no SENTENCE", x.said(), -1);
        for (int p = 0; p < 3; p++) {
            Due.same("ways", x.person(p, 3) * 10 + x.person(p, 4), 0);
        }
        Due.sentence(x, "free");
        Due.same("nobody was bound", x.said(), 7);
        x = full();
        Due.same("an empty one", villageOf(x, ""), 0);
        int[] counts = {0, 0, 0, 0, 3, 50, 10, 0};
        for (int what = 0; what < counts.length; what++) {
            Due.same("count(" + what + ")", x.count(what), counts[what]);
        }
        // what other calls told last stays
        Due.same("the RUN", x.runBy(7) != -2 && x.runOf(2) != -1, true);
        Due.same("who is left", x.leftBy(0), 2);
        Due.same("the THINK", x.thinkOf(2, 1) != -1, true);
        Due.same("the image", x.restore(0), true);
    }

    private static int villageOf(NightHelp x, String text) {
        x.end(0);
        return Due.village(x, text);
    }

    private static void tapeIsEmptyThen() {
        Due.says("The tape (empty then, here and below, whatever is answered)");
        NightHelp x = new NightHelp();
        String[] texts = {"", "free", "year 5;", "out 5;", "x", Due.repeat(" ", 901), Due.repeat(";", 940)};
        for (String text : texts) {
            Due.village(x, text);
            Due.same("behind village() of " + text, x.count(7), 0);
            Due.book(x, text);
            Due.same("behind book() of " + text, x.count(7), 0);
            Due.sentence(x, text);
            Due.same("behind sentence() of " + text, x.count(7), 0);
        }
    }

    private static void throwing() {
        Due.says("A call that throws changes nothing.");
        refused("calls that throw", z -> {
            Due.none("help", () -> z.help(2, 0));
            Due.none("person", () -> z.person(3, 0));
            Due.none("came", () -> z.came(3, 0));
            Due.none("best", () -> z.best(1, 0, 1, 0, 0));
        });
        NightHelp x = new NightHelp();
        Shown before = Shown.by(x);
        Due.none("help", () -> x.help(0, 0));
        Due.none("person", () -> x.person(0, 0));
        Due.none("came", () -> x.came(0, 0));
        Due.none("best", () -> x.best(0, 0, 0, 0, 0));
        before.stays("a new object", x);
    }

    private static void fault() {
        Due.says("The kind of the FAULT of the latest village(), book() or sentence(); 0 without one and ahead of any.");
        NightHelp x = new NightHelp();
        Due.same("ahead of any", x.fault(), 0);
        Due.village(x, "out");
        Due.same("1 of village()", x.fault(), 1);
        Due.village(x, "binds 0;");
        Due.same("2 of village()", x.fault(), 2);
        Due.village(x, "out 5;out");
        Due.same("3 of village()", x.fault(), 3);
        Due.village(x, "help a 1 1;help b 1 1;help c 1 1;help d 1 1;help e 1 1;help f 1 1;help");
        Due.same("4 of village()", x.fault(), 4);
        Due.village(x, VILLAGE);
        Due.same("without one", x.fault(), 0);
        Due.book(x, "pa helps pb");
        Due.same("1 of book()", x.fault(), 1);
        Due.sentence(x, "free");
        Due.same("without one", x.fault(), 0);
        Due.book(x, "year 100;");
        Due.same("2 of book()", x.fault(), 2);
        Due.book(x, "pa helps pa");
        Due.same("3 of book()", x.fault(), 3);
        Due.book(x, Due.repeat("pa leaves pb dig;", 40) + "year 1;");
        Due.same("without one", x.fault(), 0);
        Due.sentence(x, "not");
        Due.same("1 of sentence()", x.fault(), 1);
        Due.sentence(x, Due.repeat("not ", 8) + "free");
        Due.same("4 of sentence()", x.fault(), 4);
        x.said();
        x.end(0);
        x.image(0);
        x.restore(0);
        Due.same("by those three alone", x.fault(), 4);
        Due.book(x, "");
        Due.same("without one", x.fault(), 0);
    }

    private static void help() {
        Due.says("Of HELP k: 0 WORTH, 1 HIDE. NoSuchElementException: no such ones.");
        NightHelp x = full();
        Due.same("the last HELP", x.help(1, 0) * 10 + x.help(1, 1), 305);
        Due.none("help of none", () -> new NightHelp().help(0, 0));
        none("help(2, 0)", z -> z.help(2, 0));
        none("help(0, 2)", z -> z.help(0, 2));
        for (int no : NO) {
            none("help(" + no + ", 0)", z -> z.help(no, 0));
            none("help(0, " + no + ")", z -> z.help(0, no));
        }
    }

    private static void person() {
        Due.says("Of PERSON p: 0 LIMIT, 1 HELPS that one can, 2 that one needs (bits both), 3 the way of helping,"
            + " 4 of thanking. NoSuchElementException: no such ones.");
        NightHelp x = full();
        int[][] due = {{1, 3, 0, 2, 1}, {2, 0, 3, 4, 3}, {0, 1, 2, 1, 2}};
        for (int p = 0; p < 3; p++) {
            for (int what = 0; what < 5; what++) {
                Due.same("person(" + p + ", " + what + ")", x.person(p, what), due[p][what]);
            }
        }
        none("person(3, 0)", z -> z.person(3, 0));
        none("person(0, 5)", z -> z.person(0, 5));
        for (int no : NO) {
            none("person(" + no + ", 0)", z -> z.person(no, 0));
            none("person(0, " + no + ")", z -> z.person(0, no));
        }
        Due.none("person of none", () -> new NightHelp().person(0, 3));
    }

    private static void need() {
        Due.says("Of NEED n: 0 the PERSON, 1 the HELP. NONE: no such ones.");
        NightHelp x = full();
        Due.same("the last PERSON", x.need(2, 0), 2);
        Due.same("the last HELP", x.need(2, 1), 1);
        refused("need of none", z -> {
            Due.same("need(3, 0)", z.need(3, 0), -1);
            Due.same("need(3, 1)", z.need(3, 1), -1);
            Due.same("need(0, 2)", z.need(0, 2), -1);
            for (int no : NO) {
                Due.same("need(" + no + ", 0)", z.need(no, 0), -1);
                Due.same("need(0, " + no + ")", z.need(0, no), -1);
            }
        });
    }

    private static void tie() {
        Due.says("Of p for q: 0 friendship, 1 how p sees q, in tenths (0: not told). NONE: no such ones.");
        NightHelp x = full();
        Due.same("friendship", x.tie(0, 1, 0), 5);
        Due.same("friendship not told", x.tie(1, 0, 0), 0);
        Due.same("how pb sees pa", x.tie(1, 0, 1), 4);
        Due.same("not told", x.tie(0, 1, 1), 0);
        Due.same("the last", x.tie(2, 0, 1), 10);
        Due.same("of one and the same", x.tie(2, 2, 0) + x.tie(2, 2, 1), 0);
        refused("tie of none", z -> {
            Due.same("tie(3, 0, 0)", z.tie(3, 0, 0), -1);
            Due.same("tie(0, 3, 0)", z.tie(0, 3, 0), -1);
            Due.same("tie(0, 1, 2)", z.tie(0, 1, 2), -1);
            for (int no : NO) {
                Due.same("tie(" + no + ", 0, 0)", z.tie(no, 0, 0), -1);
                Due.same("tie(0, " + no + ", 1)", z.tie(0, no, 1), -1);
                Due.same("tie(0, 1, " + no + ")", z.tie(0, 1, no), -1);
            }
        });
    }

    // ---- the BOOK

    private static void book() {
        Due.says("The tape is the BOOK now: how many LINES; -1 less the place of a FAULT: the BOOK before stays.");
        String[] texts = {"x", "pa helps pb dig;pb thanks pa dig;year 5;pc helps pb dig hidden;year 5;", "year 100;",
            "pa helps pb dig;pb thanks pb dig;", "pa helps pb mend;pa", "pa leaves pb dig"};
        for (String text : texts) {
            NightHelp x = full();
            Shown before = Shown.by(x);
            x.end(0);
            Due.same("a FAULT", Due.book(x, text) < 0, true);
            before.stays("book " + text, x, "fault()", "count(7)");
        }
        NightHelp x = full();
        x.end(0);
        Due.same("one with all", Due.book(x, "pa helps pb dig;pb thanks pc dig;pb thanks pa dig;pa helps pb dig;year 9;"), 5);
        int[] all = {2, 0, 2, 7, 1};
        for (int what = 0; what < 5; what++) {
            Due.same("judge(" + what + ") by it", x.judge(what), all[what]);
        }
        Due.same("one astray", Due.book(x, "pc helps pb dig;pb thanks pa dig;"), 2);
        Due.same("ASTRAY", x.judge(1), 1);
        Due.same("none", Due.book(x, ""), 0);
        Due.same("an empty BOOK", x.count(3), 0);
        for (int what = 0; what < 5; what++) {
            Due.same("judge(" + what + ") of the BOOK now", x.judge(what), 0);
            for (int p = 0; p < 3; p++) {
                Due.same("came(" + p + ", " + what + ") by the BOOK now", x.came(p, what), 0);
            }
        }
        Due.same("no bond of the BOOK before", x.bound(0, 1, 0), 0);
        Due.same("the SENTENCE stays", x.said(), 0);
        Due.same("the ways stay", x.person(0, 3), 2);
    }

    private static void wrong() {
        Due.says("Why LINE i of the BOOK is WRONG (0: it is not); NONE: no such one.");
        NightHelp x = full();
        Due.same("the first", x.wrong(0), 0);
        Due.same("the last", x.wrong(3), 0);
        refused("wrong of none", z -> {
            Due.same("wrong(4)", z.wrong(4), -1);
            for (int no : NO) {
                Due.same("wrong(" + no + ")", z.wrong(no), -1);
            }
        });
        x.end(0);
        Due.book(x, "pa leaves pb dig;");
        Due.same("the first of another BOOK", x.wrong(0), 6);
        Due.same("no LINE of the BOOK before", x.wrong(1), -1);
        Due.book(x, "");
        Due.same("of an empty BOOK", x.wrong(0), -1);
    }

    private static void judge() {
        Due.says("By the BOOK: 0 WRONG LINES, 1 ASTRAY, 2 BROKEN, 3 GAINED by all, 4 helps done. NONE for another what.");
        NightHelp x = full();
        int[] due = {0, 0, 1, 10 - 3 + 10 - 9, 2};
        for (int what = 0; what < 5; what++) {
            Due.same("judge(" + what + ")", x.judge(what), due[what]);
        }
        refused("judge of another what", z -> {
            Due.same("judge(5)", z.judge(5), -1);
            for (int no : NO) {
                Due.same("judge(" + no + ")", z.judge(no), -1);
            }
        });
    }

    private static void came() {
        Due.says("Of PERSON p by the BOOK: 0 GAINED, 1 FELT, 2 helps done, 3 bonds at the end, 4 bonds BROKEN."
            + " NoSuchElementException: no such ones.");
        NightHelp x = full();
        int[][] due = {{-3, 7, 1, 1, 1}, {20, 20, 0, 0, 0}, {-9, -9, 1, 0, 0}};
        for (int p = 0; p < 3; p++) {
            for (int what = 0; what < 5; what++) {
                Due.same("came(" + p + ", " + what + ")", x.came(p, what), due[p][what]);
            }
        }
        none("came(3, 0)", z -> z.came(3, 0));
        none("came(0, 5)", z -> z.came(0, 5));
        for (int no : NO) {
            none("came(" + no + ", 0)", z -> z.came(no, 0));
            none("came(0, " + no + ")", z -> z.came(0, no));
        }
        Due.none("came of none", () -> new NightHelp().came(0, 0));
    }

    private static void bound() {
        Due.says("YEARS behind the last one of the BOOK for which p is bound to q for HELP k; NONE: no such ones.");
        NightHelp x = full();
        Due.same("bound", x.bound(0, 1, 0), 1);
        Due.same("not bound", x.bound(2, 1, 0), 0);
        Due.same("to one who does not need it", x.bound(0, 2, 0), 0);
        Due.same("to oneself", x.bound(0, 0, 0), 0);
        Due.same("the last of all", x.bound(2, 2, 1), 0);
        refused("bound of none", z -> {
            Due.same("bound(3, 1, 0)", z.bound(3, 1, 0), -1);
            Due.same("bound(0, 3, 0)", z.bound(0, 3, 0), -1);
            Due.same("bound(0, 1, 2)", z.bound(0, 1, 2), -1);
            for (int no : NO) {
                Due.same("bound(" + no + ", 1, 0)", z.bound(no, 1, 0), -1);
                Due.same("bound(0, " + no + ", 0)", z.bound(0, no, 0), -1);
                Due.same("bound(0, 1, " + no + ")", z.bound(0, 1, no), -1);
            }
        });
    }

    // ---- FOUND, PAIR, BEST

    private static void found() {
        Due.says("PARTS with which a hidden help of p is FOUND; NONE: no such one.");
        NightHelp x = full();
        Due.same("found(0)", x.found(0), 10000000);
        Due.same("found(2)", x.found(2), 0);
        refused("found of none", z -> {
            Due.same("found(3)", z.found(3), -1);
            for (int no : NO) {
                Due.same("found(" + no + ")", z.found(no), -1);
            }
        });
    }

    private static void pair() {
        Due.says("PARTS of PAIR p, q; NONE: no such ones, or one.");
        NightHelp x = full();
        Due.same("pair(0, 1)", x.pair(0, 1), 0);
        Due.same("pair(2, 1)", x.pair(2, 1), 0);
        refused("pair of none, or one", z -> {
            Due.same("pair(0, 0)", z.pair(0, 0), -1);
            Due.same("pair(2, 2)", z.pair(2, 2), -1);
            Due.same("pair(0, 3)", z.pair(0, 3), -1);
            Due.same("pair(3, 0)", z.pair(3, 0), -1);
            for (int no : NO) {
                Due.same("pair(" + no + ", 0)", z.pair(no, 0), -1);
                Due.same("pair(0, " + no + ")", z.pair(0, no), -1);
            }
        });
    }

    private static final int[][] NO_CASES = {{-1, 0, 1, 0, 0}, {3, 0, 1, 0, 0}, {0, -1, 1, 0, 0}, {0, 3, 1, 0, 0},
        {0, 0, -1, 0, 0}, {0, 0, 21, 0, 0}, {0, 0, 1, -1, 0}, {0, 0, 1, 3, 0}, {0, 0, 1, 0, -1}, {0, 0, 1, 0, 3},
        {1, 0, 1, 0, 0}, {2, 1, 1, 0, 0}, {2, 2, 1, 0, 0}, {Integer.MAX_VALUE, 0, 1, 0, 0},
        {0, Integer.MAX_VALUE, 1, 0, 0}, {0, 0, Integer.MAX_VALUE, 0, 0}, {0, 0, 1, Integer.MAX_VALUE, 0},
        {0, 0, 1, 0, Integer.MAX_VALUE}, {Integer.MIN_VALUE, 0, 1, 0, 0}, {0, Integer.MIN_VALUE, 1, 0, 0},
        {0, 0, Integer.MIN_VALUE, 0, 0}, {0, 0, 1, Integer.MIN_VALUE, 0}, {0, 0, 1, 0, Integer.MIN_VALUE}};

    private static void best() {
        Due.says("BEST: V(T, b) of helper h for NEED n under a LAW, b 0 to 'binds'."
            + " NoSuchElementException: not as told, or h can't.");
        NightHelp x = full();
        Due.same("b 0", x.best(0, 0, 20, 0, 0), 40000000);
        Due.same("b 'binds'", x.best(0, 0, 20, 2, 2), 184000000);
        for (int[] c : NO_CASES) {
            none("best(" + c[0] + ", " + c[1] + ", " + c[2] + ", " + c[3] + ", " + c[4] + ")",
                z -> z.best(c[0], c[1], c[2], c[3], c[4]));
        }
        Due.none("best of none", () -> new NightHelp().best(0, 0, 0, 0, 0));
    }

    private static void does() {
        Due.says("What is done then: b 0: 0 none, 1 by night, 2 by day; bound: 2 by day, 3 leaves; T 0: 0."
            + " NONE: not as told, or h can't.");
        NightHelp x = full();
        Due.same("b 0", x.does(0, 0, 20, 0, 0), 2);
        Due.same("none", x.does(2, 0, 20, 0, 0), 0);
        Due.same("bound", x.does(2, 0, 1, 1, 0), 2);
        Due.same("leaves", x.does(2, 0, 2, 2, 0), 3);
        Due.same("T 0", x.does(0, 0, 0, 2, 0), 0);
        refused("does not as told", z -> {
            for (int[] c : NO_CASES) {
                Due.same("does(" + c[0] + ", " + c[1] + ", " + c[2] + ", " + c[3] + ", " + c[4] + ")",
                    z.does(c[0], c[1], c[2], c[3], c[4]), -1);
            }
        });
        Due.same("does of none", new NightHelp().does(0, 0, 0, 0, 0), -1);
    }

    private static void willing() {
        Due.says("how many of those who can (none bound) do not do none; NONE: not as told.");
        NightHelp x = full();
        Due.same("both for a gift", x.willing(0, 20, 2), 2);
        Due.same("one for nothing", x.willing(0, 1, 1), 1);
        Due.same("no YEARS", x.willing(0, 0, 2), 0);
        refused("willing not as told", z -> {
            int[][] calls = {{3, 1, 0}, {0, 21, 0}, {0, -1, 0}, {0, 1, 3}, {0, 1, -1}};
            for (int[] c : calls) {
                Due.same("willing(" + c[0] + ", " + c[1] + ", " + c[2] + ")", z.willing(c[0], c[1], c[2]), -1);
            }
            for (int no : NO) {
                Due.same("willing(" + no + ", 1, 0)", z.willing(no, 1, 0), -1);
                Due.same("willing(0, " + no + ", 0)", z.willing(0, no, 0), -1);
                Due.same("willing(0, 1, " + no + ")", z.willing(0, 1, no), -1);
            }
        });
    }

    // ---- ways and RUNS

    private static void ways() {
        Due.says("A PERSON's ways of helping (0 to 4) and thanking (0 to 3): true; false: not as told.");
        for (int helping = 0; helping <= 4; helping++) {
            for (int thanking = 0; thanking <= 3; thanking++) {
                NightHelp x = full();
                Due.same("ways", x.ways(2, helping, thanking), true);
                Due.same("helping", x.person(2, 3), helping);
                Due.same("thanking", x.person(2, 4), thanking);
                Due.same("of others", x.person(1, 3) * 10 + x.person(1, 4), 43);
            }
        }
        refused("ways not as told", z -> {
            int[][] calls = {{3, 0, 0}, {-1, 0, 0}, {0, 5, 0}, {0, -1, 0}, {0, 0, 4}, {0, 0, -1}, {0, 5, 4}};
            for (int[] c : calls) {
                Due.same("ways(" + c[0] + ", " + c[1] + ", " + c[2] + ")", z.ways(c[0], c[1], c[2]), false);
            }
            for (int no : NO) {
                Due.same("ways(" + no + ", 0, 0)", z.ways(no, 0, 0), false);
                Due.same("ways(0, " + no + ", 0)", z.ways(0, no, 0), false);
                Due.same("ways(0, 0, " + no + ")", z.ways(0, 0, no), false);
            }
        });
    }

    private static void run() {
        Due.says("A RUN: how many helps were done; NONE: not as told.");
        NightHelp x = full();
        Due.same("run(1, 7)", x.run(1, 7), 3);
        Due.same("run(60, 7)", x.run(60, 7), 180);
        refused("run not as told", z -> {
            Due.same("run(0, 7)", z.run(0, 7), -1);
            Due.same("run(61, 7)", z.run(61, 7), -1);
            for (int no : NO) {
                Due.same("run(" + no + ", 7)", z.run(no, 7), -1);
            }
        });
    }

    private static void runBy() {
        Due.says("NONE - 1 for another what, or ahead of any.");
        NightHelp x = new NightHelp();
        for (int what = -1; what <= 8; what++) {
            Due.same("ahead of any", x.runBy(what), -2);
        }
        x.run(0, 1);
        x.run(61, 1);
        Due.same("ahead of any that was not NONE", x.runBy(0), -2);
        x.run(1, 1);
        int[] due = {0, 0, 0, 0, 0, -1, 0, 0};
        for (int what = 0; what < 8; what++) {
            Due.same("runBy(" + what + ") of nobody", x.runBy(what), due[what]);
        }
        refused("runBy of another what", z -> {
            Due.same("runBy(8)", z.runBy(8), -2);
            for (int no : NO) {
                Due.same("runBy(" + no + ")", z.runBy(no), -2);
            }
        });
    }

    private static void runByWhat() {
        Due.says("By the latest run() that was not NONE: 0 helps by day, 1 by night, 2 by night and found, 3 thanks (of who is"
            + " not bound by them for LIMIT, too), 4 ASTRAY, 5 STAND (NONE: never), 6 NEEDS that were not met,"
            + " 7 GAINED by all.");
        NightHelp x = Due.of("help dig 10 4;help mend 9 1;help mow 5 0;person pa 1 can dig 3;person pb 0 needs dig needs mow;"
            + "person pc 1 can dig 5 can mend 2;person pd 0 needs mend;sees pb pa 10;binds 1;");
        Due.same("ways", x.ways(0, 2, 0) && x.ways(1, 0, 3) && x.ways(2, 1, 0) && x.ways(3, 0, 1), true);
        // pa digs by night, pc is thanked for it, digs in the next YEAR, mends in both; nobody mows
        Due.same("run(2, 1)", x.run(2, 1), 4);
        int[] due = {3, 1, 1, 3, 1, 0, 2, 10 - 3 - 4 + 10 - 5 + 2 * (9 - 2)};
        for (int what = 0; what < 8; what++) {
            Due.same("runBy(" + what + ")", x.runBy(what), due[what]);
        }
        Due.same("run(61, 1)", x.run(61, 1), -1);
        for (int what = 0; what < 8; what++) {
            Due.same("runBy(" + what + ") of the latest that was not NONE", x.runBy(what), due[what]);
        }
        Due.same("run(1, 1)", x.run(1, 1), 2);
        int[] one = {1, 1, 1, 2, 1, 0, 1, 10 - 3 - 4 + 9 - 2};
        for (int what = 0; what < 8; what++) {
            Due.same("runBy(" + what + ") of the latest", x.runBy(what), one[what]);
        }
        x.ways(3, 0, 0);
        x.run(2, 1);
        Due.same("STAND never", x.runBy(5), -1);
    }

    private static void runOf() {
        Due.says("Helps done by PERSON p then; NONE: no such one of that VILLAGE, or ahead of any.");
        Due.same("ahead of any", new NightHelp().runOf(0), -1);
        Due.same("ahead of any, with PERSONS", Due.of(VILLAGE).runOf(0), -1);
        NightHelp x = full();
        refused("runOf of none", z -> {
            Due.same("runOf(3)", z.runOf(3), -1);
            for (int no : NO) {
                Due.same("runOf(" + no + ")", z.runOf(no), -1);
            }
        });
        Due.same("of all", x.runOf(0) + x.runOf(1) + x.runOf(2), 9);
        villageOf(x, "person p 1;person q 1;person r 1;person s 1;");
        Due.same("of that VILLAGE", x.runOf(0) + x.runOf(1) + x.runOf(2), 9);
        Due.same("no such one of that VILLAGE", x.runOf(3), -1);
        villageOf(x, "");
        Due.same("of that VILLAGE still", x.runOf(2) >= 0, true);
        x.run(1, 1);
        Due.same("of an empty one", x.runOf(0), -1);
    }

    // ---- LEFT and THINK

    private static void left() {
        Due.says("LEFT: how many NEEDS are met at most; NONE: not as told.");
        NightHelp x = full();
        Due.same("left(0)", x.left(0), 0);
        Due.same("left(9)", x.left(9), 3);
        refused("left not as told", z -> {
            Due.same("left(10)", z.left(10), -1);
            for (int no : NO) {
                Due.same("left(" + no + ")", z.left(no), -1);
            }
        });
    }

    private static void leftBy() {
        Due.says("By whom NEED n is met by the latest left() that was not NONE; NONE: by nobody, no such one, or ahead of any.");
        NightHelp x = Due.of(VILLAGE);
        Due.same("ahead of any", x.leftBy(0), -1);
        x.left(-1);
        x.left(10);
        Due.same("ahead of any that was not NONE", x.leftBy(0), -1);
        x.left(9);
        int[] due = {0, 0, 0};
        for (int n = 0; n < 3; n++) {
            Due.same("leftBy(" + n + ")", x.leftBy(n), due[n]);
        }
        x.left(1);
        Due.same("by another one", x.leftBy(0), 2);
        Due.same("by pa", x.leftBy(1), 0);
        Due.same("by nobody", x.leftBy(2), -1);
        refused("leftBy of none", z -> {
            Due.same("leftBy(3)", z.leftBy(3), -1);
            for (int no : NO) {
                Due.same("leftBy(" + no + ")", z.leftBy(no), -1);
            }
        });
        Due.village(x, "");
        Due.same("it stays behind another VILLAGE", x.leftBy(1), 0);
        x.left(9);
        Due.same("no NEED of an empty one", x.leftBy(0), -1);
    }

    private static void think() {
        Due.says("those seen outside and at home as bits (others count nothing): who; NONE: nobody, no such ones.");
        NightHelp x = full();
        Due.same("pa", x.think(1, 0, 0, 0), 0);
        Due.same("pc", x.think(1, 0, 4, 1), 2);
        refused("think that told nobody", z -> {
            Due.same("nobody else can", z.think(0, 1, -1, 0), -1);
            Due.same("all at home", z.think(1, 0, 0, 5), -1);
            Due.same("think(3, 0)", z.think(3, 0, 0, 0), -1);
            Due.same("think(1, 2)", z.think(1, 2, 0, 0), -1);
            for (int no : NO) {
                Due.same("think(" + no + ", 0)", z.think(no, 0, 0, 0), -1);
                Due.same("think(1, " + no + ")", z.think(1, no, 0, 0), -1);
            }
        });
        Due.same("of no VILLAGE", new NightHelp().think(0, 0, 0, 0), -1);
    }

    private static void thinkOf() {
        Due.says("PARTS of PERSON q (what 0), of all (1) by the latest think() that told a PERSON;"
            + " NONE: no such one of then, another what, or ahead of any.");
        NightHelp x = Due.of(VILLAGE);
        Due.same("ahead of any", x.thinkOf(0, 0), -1);
        x.think(1, 0, 0, 5);
        x.think(3, 0, 0, 0);
        Due.same("ahead of any that told a PERSON", x.thinkOf(0, 1), -1);
        x.think(1, 0, 4, 0);
        int[] due = {6, 0, 3};
        for (int q = 0; q < 3; q++) {
            Due.same("thinkOf(" + q + ", 0)", x.thinkOf(q, 0), due[q]);
            Due.same("thinkOf(" + q + ", 1)", x.thinkOf(q, 1), 9);
        }
        refused("thinkOf of none", z -> {
            Due.same("thinkOf(3, 0)", z.thinkOf(3, 0), -1);
            Due.same("thinkOf(0, 2)", z.thinkOf(0, 2), -1);
            for (int no : NO) {
                Due.same("thinkOf(" + no + ", 0)", z.thinkOf(no, 0), -1);
                Due.same("thinkOf(0, " + no + ")", z.thinkOf(0, no), -1);
            }
        });
        Due.village(x, "person p 1;person q 1;person r 1;person s 1;");
        Due.same("of then", x.thinkOf(2, 0), 3);
        Due.same("no such one of then", x.thinkOf(3, 0), -1);
        Due.same("nobody", x.think(0, 0, 0, 0), -1);
        Due.same("of then still", x.thinkOf(2, 1), 9);
    }

    // ---- SENTENCES

    private static void sentence() {
        Due.says("how many ONES (each not, bracket and other one); -1 less the place of a FAULT: the SENTENCE before stays.");
        NightHelp y = Due.of(VILLAGE);
        Due.sentenceOnes(y, 1, "free");
        Due.sentenceOnes(y, 2, "not free");
        Due.sentenceOnes(y, 2, "(free)");
        Due.sentenceOnes(y, 6, "not (free or not bound) and felt = 5");
        String[] texts = {"", "x", "free or", "free or free)", "not not not not not not not not free",
            "free" + Due.repeat(" or free", 20), Due.blanks("free", 201)};
        for (String text : texts) {
            NightHelp x = full();
            Shown before = Shown.by(x);
            x.end(0);
            Due.same("a FAULT", Due.sentence(x, text) < 0, true);
            before.stays("sentence " + text, x, "fault()", "count(7)");
            Due.book(x, "pc helps pb dig;");
            Due.same("the SENTENCE before is said", x.said(), 4);
        }
    }

    private static void said() {
        Due.says("The PERSONS of whom it may be said, as bits; NONE: there is no SENTENCE.");
        NightHelp x = Due.of(VILLAGE);
        Due.same("ahead of any", x.said(), -1);
        Due.sentence(x, "free or");
        Due.same("a faulty one is none", x.said(), -1);
        Due.sentence(x, "free");
        Due.same("all", x.said(), 7);
        Due.sentence(x, "bound");
        Due.same("nobody is not NONE", x.said(), 0);
        Due.village(x, VILLAGE);
        Due.same("a new VILLAGE has none", x.said(), -1);
    }

    // ---- images

    private static void image() {
        Due.says("VILLAGE, ways, BOOK and SENTENCE are kept in place k (0, 1): true; false: no such one.");
        NightHelp x = full();
        Due.same("image(0)", x.image(0), true);
        Due.same("image(1)", x.image(1), true);
        refused("image in no place", z -> {
            Due.same("image(2)", z.image(2), false);
            for (int no : NO) {
                Due.same("image(" + no + ")", z.image(no), false);
            }
        });
    }

    private static void restore() {
        Due.says("true; false: no such one, or nothing is kept there.");
        NightHelp x = new NightHelp();
        Due.same("nothing in 0", x.restore(0), false);
        Due.same("nothing in 1", x.restore(1), false);
        x.image(1);
        Due.same("nothing in 0 still", x.restore(0), false);
        Due.same("an empty VILLAGE is kept in 1", x.restore(1), true);
        refused("restore of nothing", z -> {
            Due.same("restore(1)", z.restore(1), false);
            Due.same("restore(2)", z.restore(2), false);
            for (int no : NO) {
                Due.same("restore(" + no + ")", z.restore(no), false);
            }
        });
    }

    private static void keptApart() {
        Due.says("They are as kept in place k");
        NightHelp x = full();
        Shown first = Shown.by(x);
        x.image(1);
        x.end(0);
        Due.village(x, "help a 1 1;person p 1 can a 1;person q 1 needs a;");
        Due.book(x, "p helps q a;");
        Due.sentence(x, "free");
        x.ways(0, 1, 1);
        x.image(0);
        Due.same("restore(1)", x.restore(1), true);
        first.stays("as kept in 1", x, "fault()", "count(7)");
        Due.same("restore(0)", x.restore(0), true);
        Due.same("as kept in 0", x.count(1) * 100 + x.count(3) * 10 + x.person(0, 3), 211);
        Due.same("its SENTENCE", x.said(), 3);
        NightHelp y = full();
        Due.same("what came behind image()", y.person(0, 3), 2);
        y.restore(0);
        Due.same("is not kept", y.person(0, 3), 0);
        y.ways(0, 1, 1);
        y.end(0);
        Due.book(y, "");
        Due.sentence(y, "free");
        y.restore(0);
        Due.same("as often as one likes: ways", y.person(0, 3), 0);
        Due.same("BOOK", y.count(3), 4);
        Due.same("SENTENCE", y.said(), 4);
    }

    private static void keptWhole() {
        Due.says("They are as kept in place k");
        StringBuilder text = new StringBuilder("help a 1 1;help b 2 2;help c 3 3;help d 4 4;help e 5 5;help f 6 6;");
        for (char p = 'p'; p <= 'w'; p++) {
            text.append("person ").append(p).append(" 9 can a 1 can f 1 needs a needs b needs c needs d needs e needs f;");
        }
        NightHelp x = Due.of(text + "friend w p 10;sees w v 10;friend p w 9;sees v w 8;binds 9;out 999;gift 99;");
        Due.bookLines(x, 47, Due.repeat("w leaves p a;", 41)
            + "p helps w f;w thanks p f;w helps p f;p thanks w f;year 1;year 2;");
        Due.sentenceOnes(x, 20, Due.blanks("bonds = 1" + Due.repeat(" or free", 18), 191) + "and bound");
        for (int p = 0; p < 8; p++) {
            x.ways(p, p % 5, p % 4);
        }
        Due.same("image(0)", x.image(0) && x.image(1), true);
        Due.village(x, "out 5;");
        for (int place = 0; place < 2; place++) {
            x.restore(place);
            for (int p = 0; p < 8; p++) {
                Due.same("ways of " + p, x.person(p, 3) * 10 + x.person(p, 4), p % 5 * 10 + p % 4);
                Due.same("what " + p + " can and needs", x.person(p, 1) * 100 + x.person(p, 2), 3363);
            }
            for (int k = 0; k < 6; k++) {
                Due.same("HELP " + k, x.help(k, 0) + x.help(k, 1), 2 * k + 2);
            }
            for (int n = 0; n < 48; n++) {
                Due.same("NEED " + n, x.need(n, 0) * 6 + x.need(n, 1), n);
            }
            Due.same("friendships", x.tie(7, 0, 0) * 100 + x.tie(0, 7, 0), 1009);
            Due.same("sights", x.tie(7, 6, 1) * 100 + x.tie(6, 7, 1), 1008);
            Due.same("numbers", x.count(4) * 1000000 + x.count(5) * 1000 + x.count(6), 9999099);
            Due.same("LINES", x.count(3), 47);
            Due.same("the last WRONG one", x.wrong(40), 6);
            Due.same("the last LINE", x.wrong(46), 0);
            Due.same("bonds", x.bound(0, 7, 5) * 10 + x.bound(7, 0, 5), 77);
            Due.same("bonds at the end", x.came(0, 3) + x.came(7, 3), 2);
            Due.same("BROKEN", x.judge(2), 4);
            Due.same("WRONG", x.judge(0), 41);
            Due.same("the SENTENCE", x.said(), 255);
            Due.village(x, "out 6;");
        }
    }

    private static void restoreLeaves() {
        Due.says("(the tape, and what other calls told last, stays)");
        NightHelp x = full();
        int[] run = new int[8];
        for (int what = 0; what < 8; what++) {
            run[what] = x.runBy(what);
        }
        x.image(1);
        x.end(0);
        Due.village(x, "help a 1 1;person p 1 can a 1;person q 1 needs a;");
        Due.sentence(x, "bound or");
        Due.feed(x, "year 8;");
        Due.same("restore(1)", x.restore(1), true);
        Due.same("the tape", x.count(7), 7);
        Due.same("the FAULT", x.fault(), 1);
        for (int what = 0; what < 8; what++) {
            Due.same("runBy(" + what + ")", x.runBy(what), run[what]);
        }
        Due.same("leftBy(1)", x.leftBy(1), 0);
        Due.same("thinkOf(0, 0)", x.thinkOf(0, 0), 6);
        Due.same("the tape's text", x.book(), 1);
        // and what they told of another VILLAGE
        x = full();
        villageOf(x, "help a 1 1;person p 1 can a 1;person q 1 needs a;");
        x.ways(0, 1, 0);
        x.run(2, 1);
        x.left(9);
        x.think(1, 0, 0, 0);
        x.restore(0);
        Due.same("runOf(0)", x.runOf(0), 2);
        Due.same("runOf(2)", x.runOf(2), -1);
        Due.same("leftBy(1)", x.leftBy(1), -1);
        Due.same("thinkOf(2, 0)", x.thinkOf(2, 0), -1);
        Due.same("the VILLAGE", x.count(1), 3);
    }

    private static void count() {
        Due.says("0 HELPS, 1 PERSONS, 2 NEEDS, 3 LINES of the BOOK, 4 'binds', 5 'out', 6 'gift', 7 bytes of the tape."
            + " NONE for another what.");
        NightHelp x = full();
        int[] due = {2, 3, 3, 4, 2, 6, 8, 7};
        for (int what = 0; what < 8; what++) {
            Due.same("count(" + what + ")", x.count(what), due[what]);
        }
        refused("count of another what", z -> {
            Due.same("count(8)", z.count(8), -1);
            for (int no : NO) {
                Due.same("count(" + no + ")", z.count(no), -1);
            }
        });
    }

    private static void askingChangesNothing() {
        Due.says("Nothing is promised beyond the answers and state changes described above");
        refused("asking", z -> {
            z.best(0, 0, 20, 0, 0);
            z.does(0, 1, 20, 2, 2);
            z.willing(0, 20, 2);
            z.pair(0, 2);
            z.said();
        });
    }
}
