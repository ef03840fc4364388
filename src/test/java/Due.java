import java.io.IOException;
import java.nio.file.Files;
import java.nio.file.Path;
import java.util.NoSuchElementException;

/** What the tests share: feeding texts, comparing answers, and telling how it came out. */
final class Due {
    interface Call {
        long answer();
    }

    private static final String DOCUMENT = document();

    private static int wrong = 0;
    private static int asked = 0;
    private static String sentence = "";

    private Due() {
    }

    /** The document with one blank between its words; nothing, where it does not lie beside the project. */
    private static String document() {
        try {
            return Files.readString(Path.of("../shared/DOC.md")).replaceAll("\\s+", " ");
        } catch (IOException notThere) {
            return "";
        }
    }

    /** The sentence of the document to which the next answers are due: word by word, so that it is found there. */
    static void says(String words) {
        sentence = words;
        if (!DOCUMENT.isEmpty() && !DOCUMENT.contains(words)) {
            tell("the document does not say so");
        }
    }

    static void same(String what, long got, long want) {
        asked++;
        if (got != want) {
            tell(what + " answered " + got + ", due is " + want);
        }
    }

    static void same(String what, boolean got, boolean want) {
        same(what, got ? 1 : 0, want ? 1 : 0);
    }

    static void none(String what, Call call) {
        asked++;
        try {
            tell(what + " answered " + call.answer() + ", due is NoSuchElementException");
        } catch (NoSuchElementException due) {
            return;
        }
    }

    static void tell(String fault) {
        wrong++;
        if (wrong <= 40) {
            System.out.println(sentence.isEmpty() ? fault : "\"" + sentence + "\": " + fault);
        }
    }

    static boolean allWell() {
        return wrong == 0;
    }

    static void finish() {
        System.out.println(asked + " answers, " + wrong + " not as due");
        System.exit(wrong == 0 ? 0 : 1);
    }

    /** Puts a text on the tape, behind what is there. */
    static void feed(NightHelp x, String text) {
        int before = x.count(7);
        for (int i = 0; i < text.length(); i += 20) {
            x.feed(word(text, i), word(text, i + 4), word(text, i + 8), word(text, i + 12), word(text, i + 16));
        }
        if (!x.end(before + text.length())) {
            tell("the text did not go on the tape: " + text.length() + " bytes behind " + before);
        }
    }

    private static int word(String text, int at) {
        int number = 0;
        for (int i = at; i < at + 4; i++) {
            number = number << 8 | (i < text.length() ? text.charAt(i) & 255 : 0);
        }
        return number;
    }

    static int village(NightHelp x, String text) {
        feed(x, text);
        return x.village();
    }

    static int book(NightHelp x, String text) {
        feed(x, text);
        return x.book();
    }

    static int sentence(NightHelp x, String text) {
        feed(x, text);
        return x.sentence();
    }

    static NightHelp of(String village) {
        NightHelp x = new NightHelp();
        int lines = village(x, village);
        if (lines < 0) {
            tell("no village: " + village + " answered " + lines + ", fault " + x.fault());
        }
        return x;
    }

    /** A text with one fault: its kind, and the place of the sign ^ in it, which is taken out. */
    static void villageFault(int kind, String marked) {
        NightHelp x = new NightHelp();
        int place = marked.indexOf('^');
        same("village " + marked, village(x, marked.replace("^", "")), -1 - place);
        same("fault of village " + marked, x.fault(), kind);
    }

    static void bookFault(NightHelp x, int kind, String marked) {
        int place = marked.indexOf('^');
        same("book " + marked, book(x, marked.replace("^", "")), -1 - place);
        same("fault of book " + marked, x.fault(), kind);
    }

    static void sentenceFault(NightHelp x, int kind, String marked) {
        int place = marked.indexOf('^');
        same("sentence " + marked, sentence(x, marked.replace("^", "")), -1 - place);
        same("fault of sentence " + marked, x.fault(), kind);
    }

    /** A village without a fault: how many lines it has. */
    static void villageLines(int lines, String text) {
        NightHelp x = new NightHelp();
        same("village " + text, village(x, text), lines);
        same("fault of village " + text, x.fault(), 0);
    }

    static void bookLines(NightHelp x, int lines, String text) {
        same("book " + text, book(x, text), lines);
        same("fault of book " + text, x.fault(), 0);
    }

    static void sentenceOnes(NightHelp x, int ones, String text) {
        same("sentence " + text, sentence(x, text), ones);
        same("fault of sentence " + text, x.fault(), 0);
    }

    static String repeat(String part, int times) {
        StringBuilder all = new StringBuilder();
        for (int i = 0; i < times; i++) {
            all.append(part);
        }
        return all.toString();
    }

    static String blanks(String text, int length) {
        return text + repeat(" ", length - text.length());
    }
}
