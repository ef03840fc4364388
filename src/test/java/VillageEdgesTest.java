/** "Terms" of the document, the texts and the VILLAGE: each sentence with what is allowed last and what is not first. */
final class VillageEdgesTest {
    private static final String[] KEPT = {"help", "person", "can", "needs", "friend", "sees", "binds", "out", "gift",
        "year", "helps", "hidden", "thanks", "leaves", "or", "and", "not", "bound", "free", "gained", "felt", "helped",
        "bonds", "broken"};
    private static final String SIX = "help a 1 0;help b 2 0;help c 3 0;help d 4 0;help e 5 0;help f 6 0;";
    private static final String EIGHT = "person p 0;person q 1;person r 2;person s 3;person t 4;person u 5;person v 6;"
        + "person w 7;";
    private static final String TWO = "person p 1;person q 1;";

    private VillageEdgesTest() {
    }

    public static void main(String[] args) {
        blanks();
        noBlanks();
        words();
        numbers();
        signs();
        goOn();
        noTokens();
        bytesAtMost();
        bytesOverTheEnd();
        emptyTexts();
        linesEnd();
        worthAndHide();
        limits();
        pains();
        eachHelpOnce();
        unlikeOnes();
        tenths();
        eachTwoOnce();
        binds();
        out();
        gift();
        theseOnce();
        namesOfNoText();
        namesToldOnce();
        helpsAtMost();
        personsAtMost();
        firstFault();
        cantCome();
        theEnd();
        faultsOfNumbers();
        faultsOfNames();
        faultsOfHelps();
        faultsOfTwo();
        faultsOfThree();
        faultsOfMany();
        needs();
        needsAtMost();
        Due.finish();
    }

    // ---- tokens

    private static void blanks() {
        Due.says("TOKENS of all texts, with blanks (32, 10) between them or not");
        for (int b = 0; b < 256; b++) {
            NightHelp x = new NightHelp();
            boolean goesOn = b >= 'a' && b <= 'z' || b >= '0' && b <= '9';
            int due = b == 32 || b == 10 ? 1 : goesOn ? -1 : -1 - 3;
            Due.same("out and 5 with byte " + b + " between", Due.village(x, "out" + (char) b + "5;"), due);
            Due.same("fault with byte " + b + " between", x.fault(), due == 1 ? 0 : 1);
        }
        Due.villageLines(1, " \n out\n \n5 \n ; \n");
        NightHelp x = Due.of("help h 1 1;person p 1 can h 1;person q 1 needs h;");
        Due.bookLines(x, 1, " \n p\nhelps \nq\nh\nhidden\n;\n ");
        Due.sentenceOnes(x, 3, " \nnot\n(\ngained\n<\n5\n)\n ");
    }

    private static void noBlanks() {
        Due.says("TOKENS of all texts, with blanks (32, 10) between them or not");
        Due.villageLines(3, "out 5;gift 6;binds 7;");
        NightHelp x = Due.of("help h 1 1;person p 1 can h 1;person q 1 needs h;");
        Due.bookLines(x, 2, "p helps q h hidden;q thanks p h;");
        Due.sentenceOnes(x, 7, "not(gained<5)and(felt=5 or(free))");
        Due.sentenceFault(x, 1, "gained<^5or3");
    }

    private static void words() {
        Due.says("WORDS: small letters, 1 to 6");
        String name = "";
        for (int letters = 1; letters <= 6; letters++) {
            name += (char) ('z' - letters);
            Due.villageLines(1, "help " + name + " 1 1;");
            Due.villageLines(2, "help h 1 1;person " + name + " 1;");
        }
        Due.villageFault(1, "help ^" + name + "a 1 1;");
        Due.villageFault(1, "person ^" + name + "a 1;");
        Due.villageFault(1, "help ^" + Due.repeat("a", 20) + " 1 1;");
        for (char c = 'a'; c <= 'z'; c++) {
            Due.villageLines(1, "help " + c + " 1 1;");
            Due.villageLines(1, "help " + Due.repeat("" + c, 6) + " 1 1;");
        }
        Due.villageFault(1, "help ^A 1 1;");
        Due.villageFault(1, "help a^Z 1 1;");
        NightHelp x = Due.of("help zzzzzz 1 1;person aaaaaa 1;person zzzzza 1;");
        Due.bookLines(x, 1, "aaaaaa helps zzzzza zzzzzz;");
        Due.bookFault(x, 1, "^aaaaaaa helps zzzzza zzzzzz;");
        Due.bookFault(x, 1, "aaaaaa ^helpsss zzzzza zzzzzz;");
        Due.sentenceFault(x, 1, "^brokenn = 1");
    }

    private static void numbers() {
        Due.says("NUMBERS: 1 to 3 digits");
        for (String number : new String[] {"5", "05", "005"}) {
            NightHelp x = Due.of("out " + number + ";");
            Due.same("out " + number, x.count(5), 5);
        }
        Due.villageFault(1, "out ^0005;");
        Due.villageFault(1, "out ^1000;");
        Due.villageFault(1, "binds ^0001;");
        for (int digit = 0; digit <= 9; digit++) {
            NightHelp x = Due.of("out " + digit + digit + digit + ";");
            Due.same("out of " + digit, x.count(5), 111 * digit);
        }
        Due.same("the first digit counts most", Due.of("out 120;").count(5), 120);
        NightHelp x = Due.of("help h 1 1;person p 1;");
        Due.bookLines(x, 1, "year 099;");
        Due.bookFault(x, 1, "year ^0099;");
        Due.sentenceOnes(x, 1, "gained = 999");
        Due.sentenceOnes(x, 1, "gained = 000");
        Due.sentenceFault(x, 1, "gained = ^1000");
        Due.sentenceFault(x, 1, "gained = ^0000");
    }

    private static void signs() {
        Due.says("; < = > ( ) .");
        for (char sign : ";<=>()".toCharArray()) {
            Due.villageFault(1, "^" + sign);
            Due.villageFault(1, "out 5;^" + sign);
            Due.villageFault(1, "out ^" + sign + "5;");
            if (sign != ';') {
                Due.villageFault(1, "out 5^" + sign);
            }
        }
        NightHelp x = Due.of("person p 1;");
        for (String sign : new String[] {"<", "=", ">"}) {
            Due.sentenceOnes(x, 1, "gained" + sign + "5");
            Due.sentenceFault(x, 1, "gained" + sign + "^" + sign + "5");
        }
        Due.sentenceOnes(x, 2, "(free)");
        Due.sentenceFault(x, 1, "free^;");
        Due.sentenceFault(x, 1, "free^.");
    }

    private static void goOn() {
        Due.says("(A WORD, NUMBER goes on as long as small letters and digits do;");
        Due.villageFault(1, "^out5;");
        Due.villageFault(1, "out ^5a;");
        Due.villageFault(1, "out ^5gift 6;");
        Due.villageFault(1, "help ^a1 1 1;");
        Due.villageFault(1, "help ^1a 1 1;");
        Due.villageFault(1, "help ^abcde1 1 1;");
        Due.villageFault(1, "help ^abcdef1 1 1;");
        Due.villageFault(1, "help ^1234567 1 1;");
        Due.villageFault(1, "help a ^1a 1;");
        Due.villageFault(1, "^helpa 1 1;");
        Due.villageFault(1, "help^A 1 1;");
        Due.villageFault(1, "out 5^A;");
        Due.villageFault(1, "out 5^" + (char) ('a' - 1) + ";");
        Due.villageFault(1, "out 5^{;");
        Due.villageFault(1, "out 5^/;");
        Due.villageFault(1, "out 5^:;");
    }

    private static void noTokens() {
        Due.says("what is not as told is no TOKEN.)");
        for (int b = 0; b < 256; b++) {
            boolean blank = b == 32 || b == 10;
            NightHelp x = new NightHelp();
            Due.same("byte " + b + " ahead of a LINE", Due.village(x, (char) b + " out 5;"), blank ? 1 : -1);
            Due.same("fault of byte " + b, x.fault(), blank ? 0 : 1);
            NightHelp y = new NightHelp();
            Due.same("byte " + b + " behind a LINE", Due.village(y, "out 5; " + (char) b), blank ? 1 : -1 - 7);
            Due.same("fault of byte " + b, y.fault(), blank ? 0 : 1);
        }
        Due.villageFault(1, "out ^-5;");
        Due.villageFault(1, "out ^+5;");
        Due.villageFault(1, "out 5^.");
        Due.villageFault(1, "out 5^.5;");
        Due.villageFault(1, "out 5;^" + (char) ('o' + 128) + "ut 5;");
        Due.villageFault(1, "^\u00ff\u00ff\u00ff\u00ff");
    }

    // ---- how long a text is, and its end

    private static void bytesAtMost() {
        Due.says("A VILLAGE is a text of at most 900 bytes");
        Due.villageLines(1, Due.blanks("out 5;", 899));
        Due.villageLines(1, Due.blanks("out 5;", 900));
        Due.villageFault(1, Due.blanks("out 5;", 900) + "^ ");
        Due.villageFault(1, Due.blanks("out 5;", 900) + "^\n");
        Due.villageFault(1, Due.blanks("out 5;", 900) + "^" + Due.repeat(" ", 40));
        Due.villageLines(1, Due.blanks("out 5", 899) + ";");
        Due.villageFault(1, Due.blanks("out 5", 900) + "^;");
        Due.villageLines(2, Due.blanks("out 5;", 893) + "gift 6;");
        Due.villageFault(1, Due.blanks("out 5;", 894) + "gift 6^;");
        NightHelp x = Due.of(Due.blanks("out 5;", 889) + "help a 7 8;");
        Due.same("a HELP at the end of 900 bytes", x.help(0, 0) * 10 + x.help(0, 1), 78);
    }

    private static void bytesOverTheEnd() {
        Due.says("900, if there are more and no FAULT is ahead: TOKENS that begin ahead of it are read whole)");
        Due.villageFault(1, Due.blanks("out 5;", 900) + "^gift 6;");
        Due.villageFault(1, Due.blanks("out 5;", 900) + "^;");
        Due.villageFault(1, Due.blanks("out 5;", 900) + "^A");
        // no FAULT ahead: a TOKEN that begins at 899 may come, and the end of 900 bytes is told
        Due.villageFault(1, Due.blanks("out 5;", 899) + "g^ift 6;");
        Due.villageFault(1, Due.blanks("out", 899) + "5^5;");
        Due.villageFault(1, Due.blanks("out", 899) + "9^99;");
        Due.villageFault(1, Due.blanks("help", 899) + "a^bcdef 1 1;");
        // a FAULT ahead: it is told, by the whole TOKEN
        Due.villageFault(1, Due.blanks("out 5;", 899) + "^gifts 6;");
        Due.villageFault(1, Due.blanks("out", 899) + "^1000;");
        Due.villageFault(1, Due.blanks("out", 899) + "^5a;");
        Due.villageFault(1, Due.blanks("help", 899) + "^abcdefg 1 1;");
        Due.villageFault(2, Due.blanks("binds", 899) + "^10;");
        Due.villageFault(2, Due.blanks("gift", 899) + "^100;");
        Due.villageFault(3, Due.blanks("out 5;", 899) + "^out 6;");
        Due.villageFault(4, Due.blanks(SIX, 899) + "^help g 1 1;");
        Due.villageFault(2, Due.blanks("binds ^0;", 902));
        Due.villageFault(1, "^x" + Due.repeat(" ", 939));
        Due.villageLines(1, Due.blanks("out 5;", 899) + " ");
    }

    private static void emptyTexts() {
        Due.says("{ LINE ; }");
        Due.villageLines(0, "");
        Due.villageLines(0, " ");
        Due.villageLines(0, "\n");
        Due.villageLines(0, Due.repeat(" ", 900));
        Due.villageFault(1, Due.repeat(" ", 900) + "^ ");
        Due.villageFault(1, "^;");
        Due.villageFault(1, "out 5;^;");
        // as many LINES as 900 bytes may hold of these
        String full = SIX + EIGHT + ties("sees ", 56) + ties("friend ", 10);
        Due.same("a full VILLAGE's bytes", full.length(), 900);
        Due.villageLines(80, full);
    }

    private static String ties(String verb, int most) {
        StringBuilder text = new StringBuilder();
        int many = 0;
        for (char p = 'p'; p <= 'w'; p++) {
            for (char q = 'p'; q <= 'w' && many < most; q++) {
                if (p != q) {
                    text.append(verb).append(p).append(' ').append(q).append(" 1;");
                    many++;
                }
            }
        }
        return text.toString();
    }

    private static void linesEnd() {
        Due.says("{ LINE ; }");
        Due.villageFault(1, "out 5^");
        Due.villageFault(1, "out 5 ^gift 6;");
        Due.villageFault(1, "help a 1 1 ^1;");
        Due.villageFault(1, TWO + "friend p q 1 ^1;");
        Due.villageFault(1, "person p 1 ^1;");
        Due.villageFault(1, "person p 1 ^helps;");
    }

    // ---- numbers

    private static void worthAndHide() {
        Due.says("'help' NAME WORTH HIDE (1 to 99; 0 to 99)");
        NightHelp x = Due.of("help a 1 0;help b 99 99;");
        Due.same("the least WORTH", x.help(0, 0), 1);
        Due.same("the least HIDE", x.help(0, 1), 0);
        Due.same("the greatest WORTH", x.help(1, 0), 99);
        Due.same("the greatest HIDE", x.help(1, 1), 99);
        Due.villageFault(2, "help a ^0 1;");
        Due.villageFault(2, "help a ^100 1;");
        Due.villageFault(2, "help a 1 ^100;");
        Due.villageFault(2, "help a 1 ^999;");
    }

    private static void limits() {
        Due.says("(LIMIT 0 to 9, PAINS 1 to 99;");
        NightHelp x = Due.of("person p 0;person q 9;");
        Due.same("the least LIMIT", x.person(0, 0), 0);
        Due.same("the greatest LIMIT", x.person(1, 0), 9);
        Due.villageFault(2, "person p ^10;");
        Due.villageFault(1, "person p ^;");
    }

    private static void pains() {
        Due.says("(LIMIT 0 to 9, PAINS 1 to 99;");
        NightHelp x = Due.of("help a 1 0;person p 1 can a 1;person q 1 can a 99;person r 1 needs a;");
        Due.same("both can", x.person(0, 1) + x.person(1, 1), 2);
        Due.book(x, "p helps r a;");
        Due.same("the least PAINS", x.came(0, 0), -1);
        Due.book(x, "q helps r a;");
        Due.same("the greatest PAINS", x.came(1, 0), -99);
        Due.villageFault(2, "help a 1 0;person p 1 can a ^0;");
        Due.villageFault(2, "help a 1 0;person p 1 can a ^100;");
    }

    private static void eachHelpOnce() {
        Due.says("each HELP once among the one and among the other)");
        NightHelp x = Due.of("help a 1 0;help b 1 0;person p 1 can a 1 needs a can b 1 needs b;person q 1 can a 1;");
        Due.same("p can", x.person(0, 1), 3);
        Due.same("p needs", x.person(0, 2), 3);
        Due.same("q can as well", x.person(1, 1), 1);
        Due.villageFault(3, "help a 1 0;person p 1 can a 1 can ^a 2;");
        Due.villageFault(3, "help a 1 0;help b 1 0;person p 1 can a 1 can b 1 needs a can ^a 1;");
        Due.villageFault(3, "help a 1 0;person p 1 needs a needs ^a;");
        Due.villageFault(3, "help a 1 0;help b 1 0;person p 1 needs a can a 1 needs b needs ^a;");
    }

    private static void unlikeOnes() {
        Due.says("(unlike ones, N 1 to 10 tenths;");
        Due.villageLines(4, TWO + "friend p q 1;sees q p 1;");
        Due.villageFault(3, TWO + "friend p ^p 1;");
        Due.villageFault(3, TWO + "sees q ^q 1;");
    }

    private static void tenths() {
        Due.says("(unlike ones, N 1 to 10 tenths;");
        NightHelp x = Due.of(TWO + "friend p q 1;friend q p 10;sees p q 10;sees q p 1;");
        Due.same("the least friendship", x.tie(0, 1, 0), 1);
        Due.same("the greatest friendship", x.tie(1, 0, 0), 10);
        Due.same("the greatest sight", x.tie(0, 1, 1), 10);
        Due.same("the least sight", x.tie(1, 0, 1), 1);
        Due.villageFault(2, TWO + "friend p q ^0;");
        Due.villageFault(2, TWO + "friend p q ^11;");
        Due.villageFault(2, TWO + "sees p q ^0;");
        Due.villageFault(2, TWO + "sees p q ^11;");
    }

    private static void eachTwoOnce() {
        Due.says("each two in this order once each)");
        NightHelp x = Due.of(TWO + "friend p q 1;sees p q 2;friend q p 3;sees q p 4;");
        Due.same("all four", x.tie(0, 1, 0) * 1000 + x.tie(0, 1, 1) * 100 + x.tie(1, 0, 0) * 10 + x.tie(1, 0, 1), 1234);
        Due.villageFault(3, TWO + "friend p q 1;friend p ^q 1;");
        Due.villageFault(3, TWO + "friend p q 1;sees p q 1;friend q p 1;friend p ^q 2;");
        Due.villageFault(3, TWO + "sees q p 1;sees p q 1;friend q p 1;sees q ^p 2;");
    }

    private static void binds() {
        Due.says("'binds' N (1 to 9 YEARS; 3 without)");
        Due.same("the least", Due.of("binds 1;").count(4), 1);
        Due.same("the greatest", Due.of("binds 9;").count(4), 9);
        Due.same("without", Due.of("out 1;gift 1;").count(4), 3);
        Due.villageFault(2, "binds ^0;");
        Due.villageFault(2, "binds ^10;");
        NightHelp x = Due.of("binds 5;");
        Due.village(x, "out 1;");
        Due.same("without, behind a VILLAGE with it", x.count(4), 3);
    }

    private static void out() {
        Due.says("'out' N (0 to 999; 50)");
        Due.same("the least", Due.of("out 0;").count(5), 0);
        Due.same("the greatest", Due.of("out 999;").count(5), 999);
        Due.same("without", Due.of("binds 1;gift 1;").count(5), 50);
        Due.villageFault(1, "out ^1000;");
        NightHelp x = Due.of("out 5;");
        Due.village(x, "gift 1;");
        Due.same("without, behind a VILLAGE with it", x.count(5), 50);
    }

    private static void gift() {
        Due.says("'gift' N (0 to 99; 10): these three once");
        Due.same("the least", Due.of("gift 0;").count(6), 0);
        Due.same("the greatest", Due.of("gift 99;").count(6), 99);
        Due.same("without", Due.of("binds 1;out 1;").count(6), 10);
        Due.villageFault(2, "gift ^100;");
        NightHelp x = Due.of("gift 5;");
        Due.village(x, "out 1;");
        Due.same("without, behind a VILLAGE with it", x.count(6), 10);
    }

    private static void theseOnce() {
        Due.says("these three once");
        NightHelp x = Due.of("gift 1;out 2;binds 3;");
        Due.same("all three", x.count(6) * 100 + x.count(5) * 10 + x.count(4), 123);
        Due.villageFault(3, "binds 1;^binds 2;");
        Due.villageFault(3, "binds 3;out 1;gift 1;^binds 3;");
        Due.villageFault(3, "out 0;^out 0;");
        Due.villageFault(3, "out 50;binds 1;gift 1;^out 50;");
        Due.villageFault(3, "gift 0;^gift 0;");
        Due.villageFault(3, "gift 10;binds 1;out 1;^gift 10;");
        Due.same("told anew in the next VILLAGE", Due.village(x, "gift 4;out 5;binds 6;"), 3);
        Due.same("all three", x.count(6) * 100 + x.count(5) * 10 + x.count(4), 456);
    }

    // ---- names

    private static void namesOfNoText() {
        Due.says("NAME: a WORD, none of those told here, in a BOOK or in a SENTENCE; told once.");
        for (String word : KEPT) {
            Due.villageFault(1, "help ^" + word + " 1 1;");
            Due.villageFault(1, "person ^" + word + " 1;");
            if (word.length() < 6) {
                Due.villageLines(1, "help " + word + "z 1 1;");
            }
            String less = word.substring(0, word.length() - 1);
            if (!java.util.List.of(KEPT).contains(less)) {
                Due.villageLines(1, "person " + less + " 1;");
            }
            Due.villageLines(1, "help " + word.charAt(0) + " 1 1;");
        }
    }

    private static void namesToldOnce() {
        Due.says("NAME: a WORD, none of those told here, in a BOOK or in a SENTENCE; told once.");
        Due.villageFault(3, "help a 1 1;help ^a 1 1;");
        Due.villageFault(3, "person a 1;person ^a 1;");
        Due.villageFault(3, "help a 1 1;person ^a 1;");
        Due.villageFault(3, "person a 1;help ^a 1 1;");
        Due.villageFault(3, "help a 1 1;help b 1 1;help ^a 1 1;");
        Due.villageFault(3, "person a 1;person b 1;person ^a 1;");
        Due.villageFault(3, EIGHT.replace("person w 7;", "") + "person ^v 1;");
        Due.villageLines(3, "help a 1 1;help aa 1 1;person aaa 1;");
        NightHelp x = Due.of("help a 1 1;person p 1;");
        Due.same("in the next VILLAGE it may be told", Due.village(x, "person a 1;help p 1 1;"), 2);
    }

    private static void helpsAtMost() {
        Due.says("6 HELPS, 8 PERSONS at most, numbered from 0 each.");
        NightHelp x = Due.of(SIX);
        Due.same("six", x.count(0), 6);
        for (int k = 0; k < 6; k++) {
            Due.same("WORTH of HELP " + k, x.help(k, 0), k + 1);
        }
        Due.villageFault(4, SIX + "^help g 1 1;");
        Due.village(x, SIX + EIGHT);
        Due.same("six beside eight", x.count(0) * 10 + x.count(1), 68);
        Due.villageFault(4, SIX + EIGHT + "^help g 1 1;");
        Due.villageFault(4, SIX + "person p 1;^help g 1 1;");
    }

    private static void personsAtMost() {
        Due.says("6 HELPS, 8 PERSONS at most, numbered from 0 each.");
        NightHelp x = Due.of(EIGHT);
        Due.same("eight", x.count(1), 8);
        for (int p = 0; p < 8; p++) {
            Due.same("LIMIT of PERSON " + p, x.person(p, 0), p);
        }
        Due.villageFault(4, EIGHT + "^person x 1;");
        Due.villageFault(4, EIGHT + SIX + "^person x 1;");
        Due.village(x, EIGHT + "friend w p 3;sees p w 4;");
        Due.same("the last for the first", x.tie(7, 0, 0), 3);
        Due.same("the first sees the last", x.tie(0, 7, 1), 4);
    }

    // ---- faults

    private static void firstFault() {
        Due.says("FAULTS, the first along the text, of one TOKEN the least");
        Due.villageFault(2, "binds ^0;binds 1;");
        Due.villageFault(3, "binds 1;^binds 0;");
        Due.villageFault(1, "out ^;binds 0;");
        Due.villageFault(2, "help a ^0 0;help a 1 1");
        Due.villageFault(3, "help a 1 0;help ^a 0 0;A");
        Due.villageFault(4, SIX + "^help a 0 100;");
        Due.villageFault(4, SIX + "^help 5");
        Due.villageFault(4, SIX + "^help");
        Due.villageFault(4, EIGHT + "^person p 10;");
        Due.villageFault(4, EIGHT + "^person");
        Due.villageFault(3, TWO + "friend ^z p 0;");
        Due.villageFault(3, TWO + "friend p ^p 0;");
        Due.villageFault(3, TWO + "sees p q 1;sees p ^q 11;");
        // one TOKEN: a WORD of the texts can't come, and is no NAME told either
        Due.villageFault(1, TWO + "friend p ^can 1;");
        Due.villageFault(1, "person p 1 can ^can 1;");
        Due.villageFault(1, "person p 1 needs ^help;");
    }

    private static void cantCome() {
        Due.says("1 no TOKEN, or one that can't come (at it;");
        for (String word : KEPT) {
            boolean begins = "help person friend sees binds out gift".contains(word) && !word.equals("or");
            if (!begins) {
                Due.villageFault(1, "out 1;^" + word + " 1;");
            }
            Due.villageFault(1, "out ^" + word + ";");
            Due.villageFault(1, "person p 1 can ^" + word + " 1;");
            if (!word.equals("can") && !word.equals("needs")) {
                Due.villageFault(1, "person p 1 ^" + word + " 1;");
            }
        }
        Due.villageFault(1, "^a 1 1;");
        Due.villageFault(1, "^5;");
        Due.villageFault(1, "help ^5 1 1;");
        Due.villageFault(1, "help a ^a 1;");
        Due.villageFault(1, "help a 1 ^a;");
        Due.villageFault(1, "person ^5;");
        Due.villageFault(1, "person p ^p;");
        Due.villageFault(1, TWO + "friend ^5 q 1;");
        Due.villageFault(1, TWO + "friend p ^5 1;");
        Due.villageFault(1, TWO + "friend p q ^q;");
        Due.villageFault(1, TWO + "sees ^; q 1;");
        Due.villageFault(1, "binds ^a;");
        Due.villageFault(1, "gift ^;");
        Due.villageFault(1, "help a 1 1;person p 1 can ^5 1;");
        Due.villageFault(1, "help a 1 1;person p 1 can a ^a;");
        Due.villageFault(1, "help a 1 1;person p 1 can a ^needs a;");
        Due.villageFault(1, "help a 1 1;person p 1 needs ^5;");
        Due.villageFault(1, "help a 1 1;person p 1 needs a ^1;");
    }

    private static void theEnd() {
        Due.says("the end: how many bytes there are;");
        String[] begun = {"help", "help a", "help a 1", "help a 1 1", "person", "person p", "person p 1", "friend", "sees",
            "binds", "binds 1", "out", "out 1", "gift", "gift 1", "help a 1 1;person p 1 can",
            "help a 1 1;person p 1 can a", "help a 1 1;person p 1 can a 1", "help a 1 1;person p 1 needs",
            "help a 1 1;person p 1 needs a", TWO + "friend p", TWO + "friend p q", TWO + "friend p q 1", TWO + "sees p",
            TWO + "sees p q 1", "out 1;gift"};
        for (String text : begun) {
            Due.villageFault(1, text + "^");
            Due.villageFault(1, text + "  \n^");
        }
        Due.villageFault(1, Due.blanks("out 1", 899) + "^");
        Due.villageFault(1, Due.blanks("out 1", 900) + "^");
        Due.villageFault(1, Due.blanks("out 1", 900) + "^ ");
    }

    private static void faultsOfNumbers() {
        Due.says("2 a NUMBER that is not as told (at it)");
        Due.villageFault(2, "help a ^000 1;");
        Due.villageFault(2, "help a\n\n^100\n1;");
        Due.villageFault(2, "help a 99 ^100;");
        Due.villageFault(2, "person p ^010;");
        Due.villageFault(2, "person p ^999");
        Due.villageFault(2, "help a 1 1;person p 1 can a ^00");
        Due.villageFault(2, TWO + "friend p q ^999;");
        Due.villageFault(2, TWO + "sees p q 10;sees q p ^11;");
        Due.villageFault(2, "binds ^999;");
        Due.villageFault(2, "gift ^999;");
    }

    private static void faultsOfNames() {
        Due.says("3 a NAME told twice, not told, or of another sort, a HELP told twice (at it)");
        Due.villageFault(3, "help a 1 1;help b 1 1;person ^b 1;");
        Due.villageFault(3, "person p 1 can ^a 1;help a 1 1;");
        Due.villageFault(3, "person p 1 needs ^a;help a 1 1;");
        Due.villageFault(3, "person p 1;friend ^q p 1;person q 1;");
        Due.villageFault(3, "person p 1;friend p ^q 1;person q 1;");
        Due.villageFault(3, "person p 1;sees ^q p 1;person q 1;");
        Due.villageFault(3, "person p 1 can ^p 1;");
        Due.villageFault(3, TWO + "person r 1 needs ^q;");
        Due.villageFault(3, "help a 1 1;" + TWO + "friend ^a q 1;");
        Due.villageFault(3, "help a 1 1;" + TWO + "sees p ^a 1;");
        Due.villageFault(3, "help a 1 1;" + TWO + "friend p ^aa 1;");
        NightHelp x = Due.of("help a 1 1;person p 1;person q 1;");
        Due.same("NAMES of the VILLAGE before are not told", Due.village(x, "person p 1 can a 1;"), -1 - 15);
        Due.same("not told", x.fault(), 3);
        Due.same("nor those of a faulty one", Due.village(x, "friend p q 1;"), -1 - 7);
    }

    private static void faultsOfHelps() {
        Due.says("a HELP told twice (at it)");
        Due.villageFault(3, "help a 1 1;person p 1 can a 1 can ^a");
        Due.villageFault(3, "help a 1 1;person p 1 needs a needs ^a");
        Due.villageLines(3, "help a 1 1;person p 1 can a 1 needs a;person q 1 can a 1 needs a;");
    }

    private static void faultsOfTwo() {
        Due.says("two told again, or one twice (at the second PERSON)");
        Due.villageFault(3, TWO + "friend p q 1;friend p ^q");
        Due.villageFault(3, TWO + "sees p q 10;sees p ^q 10;");
        Due.villageFault(3, TWO + "friend q ^q");
        Due.villageFault(3, TWO + "sees p ^p");
        Due.villageFault(3, EIGHT + "friend w v 1;friend v w 1;friend w ^v 1;");
    }

    private static void faultsOfThree() {
        Due.says("binds, out, gift told twice (at it)");
        Due.villageFault(3, "binds 1;^binds");
        Due.villageFault(3, "out 1;^out");
        Due.villageFault(3, "gift 1;^gift");
        Due.villageFault(3, "gift 1;binds 1;out 1;^gift ;");
    }

    private static void faultsOfMany() {
        Due.says("4 a seventh HELP, a ninth PERSON (at the LINE's first WORD)");
        Due.villageFault(4, SIX + " \n ^help g 1 1;");
        Due.villageFault(4, EIGHT + " ^person x 1;");
        Due.villageFault(4, EIGHT + "help a 1 1;^person a 1;");
        Due.villageLines(7, SIX + "person p 1;");
        Due.villageLines(9, EIGHT + "help a 1 1;");
    }

    // ---- needs

    private static void needs() {
        Due.says("NEEDS are numbered person by person, HELP by HELP as told there, from 0.");
        NightHelp x = Due.of(SIX + "person p 1 needs f can a 1 needs a;person q 1;person r 1 needs c needs b;");
        int[][] due = {{0, 5}, {0, 0}, {2, 2}, {2, 1}};
        Due.same("four", x.count(2), 4);
        for (int n = 0; n < 4; n++) {
            Due.same("PERSON of NEED " + n, x.need(n, 0), due[n][0]);
            Due.same("HELP of NEED " + n, x.need(n, 1), due[n][1]);
        }
        Due.same("NEED 4", x.need(4, 0), -1);
    }

    private static void needsAtMost() {
        Due.says("NEEDS are numbered person by person, HELP by HELP as told there, from 0.");
        String all = " needs f needs e needs d needs c needs b needs a;";
        NightHelp x = Due.of(SIX + EIGHT.replace(";", all));
        Due.same("all of all", x.count(2), 48);
        for (int n = 0; n < 48; n++) {
            Due.same("PERSON of NEED " + n, x.need(n, 0), n / 6);
            Due.same("HELP of NEED " + n, x.need(n, 1), 5 - n % 6);
        }
        Due.same("NEED 48", x.need(48, 0), -1);
        Due.villageFault(3, SIX + EIGHT.replace(";", all).replace("needs a;person w", "needs a needs ^a;person w"));
    }
}
