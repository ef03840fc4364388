import java.util.Arrays;
import java.util.NoSuchElementException;

/** A village of people who help by day or by night, and who are bound by being thanked. */
public final class NightHelp {
    public static final int NONE = -1;

    private static final int MOST_HELPS = 6;
    private static final int MOST_PERSONS = 8;
    private static final int MOST_NEEDS = MOST_PERSONS * MOST_HELPS;
    private static final int MOST_BONDS = MOST_PERSONS * MOST_NEEDS;
    private static final int MOST_LINES = 60;
    private static final int MOST_BINDS = 9;
    private static final int MOST_LEFT_YEARS = 20;
    private static final int MOST_RUN_YEARS = 60;
    private static final int MOST_TOKENS = 1000;

    private static final int TAPE_BYTES = 940;
    private static final int FEED_BYTES = 20;
    private static final int VILLAGE_BYTES = 900;
    private static final int BOOK_BYTES = 700;
    private static final int SENTENCE_BYTES = 200;

    private static final int PARTS = 10000000;
    private static final long MILLION = 1000000L;

    private static final int LAW_BIND = 0;
    private static final int LAW_NOTHING = 1;
    private static final int LAW_GIFT = 2;

    private static final int DOES_NONE = 0;
    private static final int DOES_NIGHT = 1;
    private static final int DOES_DAY = 2;
    private static final int DOES_LEAVE = 3;

    private final byte[] tape = new byte[TAPE_BYTES];
    private int tapeLength = 0;
    private int faultKind = 0;

    private final State now = new State();
    private final State[] kept = {new State(), new State()};
    private final VillageText villageText = new VillageText();
    private final BookText bookText = new BookText();
    private final SentenceText sentenceText = new SentenceText();

    private final Best bestTable = new Best();
    private final Run latestRun = new Run();
    private final Left latestLeft = new Left();

    private final int[] thinkParts = new int[MOST_PERSONS];
    private final int[] thinkDraft = new int[MOST_PERSONS];
    private int thinkPersons = 0;
    private int thinkAll = 0;

    public NightHelp() {
    }

    // ---- the tape and its texts

    public int feed(int a, int b, int c, int d, int e) {
        if (tapeLength + FEED_BYTES > TAPE_BYTES) {
            return NONE;
        }
        putNumber(a);
        putNumber(b);
        putNumber(c);
        putNumber(d);
        putNumber(e);
        return tapeLength;
    }

    private void putNumber(int number) {
        for (int shift = 24; shift >= 0; shift -= 8) {
            if (tapeLength < TAPE_BYTES) {
                tape[tapeLength] = (byte) (number >> shift);
                tapeLength++;
            }
        }
    }

    public boolean end(int n) {
        if (n < 0 || n > tapeLength) {
            return false;
        }
        tapeLength = n;
        return true;
    }

    public int village() {
        boolean good = villageText.readAll(tape, takeTape());
        faultKind = villageText.tokens.fault;
        if (!good) {
            return -1 - villageText.tokens.faultPlace;
        }
        now.beginVillage(villageText.draft);
        return now.village.lines;
    }

    public int book() {
        boolean good = bookText.readAll(tape, takeTape(), now.village);
        faultKind = bookText.tokens.fault;
        if (!good) {
            return -1 - bookText.tokens.faultPlace;
        }
        now.book.copyFrom(bookText.draft);
        return now.book.lines;
    }

    public int sentence() {
        int length = takeTape();
        boolean good = sentenceText.readAll(tape, length, now.village, now.book);
        faultKind = sentenceText.tokens.fault;
        if (!good) {
            return -1 - sentenceText.tokens.faultPlace;
        }
        now.keepSentence(tape, length);
        return sentenceText.ones;
    }

    /** How many bytes are to be read: they stay in their row until others are fed over them. */
    private int takeTape() {
        int length = tapeLength;
        tapeLength = 0;
        return length;
    }

    public int fault() {
        return faultKind;
    }

    // ---- the village

    public int help(int k, int what) throws NoSuchElementException {
        Village v = now.village;
        if (!v.hasHelp(k) || what < 0 || what > 1) {
            throw new NoSuchElementException();
        }
        return what == 0 ? v.worth[k] : v.hide[k];
    }

    public int person(int p, int what) throws NoSuchElementException {
        Village v = now.village;
        if (!v.hasPerson(p) || what < 0 || what > 4) {
            throw new NoSuchElementException();
        }
        switch (what) {
            case 0:
                return v.limit[p];
            case 1:
                return v.canBits(p);
            case 2:
                return v.needBits(p);
            case 3:
                return now.helping[p];
            default:
                return now.thanking[p];
        }
    }

    public int need(int n, int what) {
        Village v = now.village;
        if (!v.hasNeed(n) || what < 0 || what > 1) {
            return NONE;
        }
        return what == 0 ? v.needPerson[n] : v.needHelp[n];
    }

    public int tie(int p, int q, int what) {
        Village v = now.village;
        if (!v.hasPerson(p) || !v.hasPerson(q) || what < 0 || what > 1) {
            return NONE;
        }
        return what == 0 ? v.friendship(p, q) : v.sight(p, q);
    }

    public int found(int p) {
        return now.village.hasPerson(p) ? now.village.foundParts(p) : NONE;
    }

    public int pair(int p, int q) {
        Village v = now.village;
        if (!v.hasPerson(p) || !v.hasPerson(q) || p == q) {
            return NONE;
        }
        return (int) ((long) v.foundParts(p) * v.foundParts(q) / PARTS);
    }

    public int count(int what) {
        switch (what) {
            case 0:
                return now.village.helps;
            case 1:
                return now.village.persons;
            case 2:
                return now.village.needs;
            case 3:
                return now.book.lines;
            case 4:
                return now.village.binds;
            case 5:
                return now.village.out;
            case 6:
                return now.village.gift;
            case 7:
                return tapeLength;
            default:
                return NONE;
        }
    }

    // ---- the book

    public int wrong(int i) {
        if (i < 0 || i >= now.book.lines || i >= MOST_LINES) {
            return NONE;
        }
        return now.book.wrongs[i];
    }

    public int judge(int what) {
        Book book = now.book;
        switch (what) {
            case 0:
                return book.wrongLines;
            case 1:
                return book.astray;
            case 2:
                return sumOf(book.broken);
            case 3:
                return sumOf(book.gained);
            case 4:
                return sumOf(book.helped);
            default:
                return NONE;
        }
    }

    private static int sumOf(int[] row) {
        int sum = 0;
        for (int number : row) {
            sum += number;
        }
        return sum;
    }

    private static void copyRow(int[] from, int[] to) {
        System.arraycopy(from, 0, to, 0, Math.min(from.length, to.length));
    }

    public int came(int p, int what) throws NoSuchElementException {
        if (!now.village.hasPerson(p) || what < 0 || what > 4) {
            throw new NoSuchElementException();
        }
        return now.book.figure(now.village, p, what);
    }

    public int bound(int p, int q, int k) {
        Village v = now.village;
        if (!v.hasPerson(p) || !v.hasPerson(q) || !v.hasHelp(k)) {
            return NONE;
        }
        int n = v.needOf(q, k);
        return n < 0 ? 0 : now.book.yearsBehind(p, n);
    }

    // ---- the best help

    public long best(int h, int n, int t, int b, int law) throws NoSuchElementException {
        if (!isCase(h, n, t, b, law)) {
            throw new NoSuchElementException();
        }
        bestTable.fill(now.village, h, n, t, law);
        return bestTable.valueAt(t, b);
    }

    public int does(int h, int n, int t, int b, int law) {
        if (!isCase(h, n, t, b, law)) {
            return NONE;
        }
        bestTable.fill(now.village, h, n, t, law);
        return bestTable.actAt(t, b);
    }

    public int willing(int n, int t, int law) {
        Village v = now.village;
        if (!v.hasNeed(n) || !isTimeAndLaw(t, law)) {
            return NONE;
        }
        int many = 0;
        for (int h = 0; h < v.persons; h++) {
            if (v.canMeet(h, n)) {
                bestTable.fill(v, h, n, t, law);
                many += bestTable.actAt(t, 0) != DOES_NONE ? 1 : 0;
            }
        }
        return many;
    }

    private boolean isCase(int h, int n, int t, int b, int law) {
        Village v = now.village;
        return v.hasPerson(h) && v.hasNeed(n) && v.canMeet(h, n)
            && isTimeAndLaw(t, law) && b >= 0 && b <= v.binds;
    }

    private static boolean isTimeAndLaw(int t, int law) {
        return t >= 0 && t <= MOST_LEFT_YEARS && law >= LAW_BIND && law <= LAW_GIFT;
    }

    // ---- runs

    public boolean ways(int p, int helping, int thanking) {
        if (!now.village.hasPerson(p) || helping < 0 || helping > Run.HELP_PAIR
            || thanking < 0 || thanking > Run.THANK_OTHER) {
            return false;
        }
        now.helping[p] = helping;
        now.thanking[p] = thanking;
        return true;
    }

    public int run(int years, int seed) {
        if (years < 1 || years > MOST_RUN_YEARS) {
            return NONE;
        }
        latestRun.go(now, years, seed);
        return latestRun.figure(Run.BY_DAY) + latestRun.figure(Run.BY_NIGHT);
    }

    public int runBy(int what) {
        if (!latestRun.ran || what < 0 || what >= Run.FIGURES) {
            return NONE - 1;
        }
        return latestRun.figure(what);
    }

    public int runOf(int p) {
        if (p < 0 || p >= latestRun.persons || p >= MOST_PERSONS) {
            return NONE;
        }
        return latestRun.helped[p];
    }

    // ---- who is left, and who most likely did it

    public int left(int m) {
        if (m < 0 || m > 9) {
            return NONE;
        }
        return latestLeft.solve(now.village, m);
    }

    public int leftBy(int n) {
        if (n < 0 || n >= latestLeft.needs || n >= MOST_NEEDS) {
            return NONE;
        }
        return latestLeft.by[n];
    }

    public int think(int p, int k, int outside, int home) {
        Village v = now.village;
        if (!v.hasPerson(p) || !v.hasHelp(k)) {
            return NONE;
        }
        int all = 0;
        int who = NONE;
        int most = 0;
        for (int q = 0; q < v.persons; q++) {
            thinkDraft[q] = q != p && v.can(q, k) ? likely(p, q, outside, home) : 0;
            all += thinkDraft[q];
            if (thinkDraft[q] > most) {
                most = thinkDraft[q];
                who = q;
            }
        }
        if (who != NONE) {
            System.arraycopy(thinkDraft, 0, thinkParts, 0, MOST_PERSONS);
            thinkPersons = v.persons;
            thinkAll = all;
        }
        return who;
    }

    private int likely(int p, int q, int outside, int home) {
        if ((home >> q & 1) == 1) {
            return 0;
        }
        int parts = 1 + now.village.friendship(q, p);
        return (outside >> q & 1) == 1 ? 3 * parts : parts;
    }

    public int thinkOf(int q, int what) {
        if (q < 0 || q >= thinkPersons || q >= MOST_PERSONS || what < 0 || what > 1) {
            return NONE;
        }
        return what == 0 ? thinkParts[q] : thinkAll;
    }

    // ---- sentences and images

    public int said() {
        int length = now.sentenceLength;
        if (length == 0 || !sentenceText.readAll(now.sentenceBytes, length, now.village, now.book)) {
            return NONE;
        }
        return sentenceText.people;
    }

    public boolean image(int k) {
        if (k < 0 || k >= kept.length) {
            return false;
        }
        kept[k].copyFrom(now);
        kept[k].filled = true;
        return true;
    }

    public boolean restore(int k) {
        if (k < 0 || k >= kept.length || !kept[k].filled) {
            return false;
        }
        now.copyFrom(kept[k]);
        return true;
    }

    /** All that image and restore carry. */
    private static final class State {
        final Village village = new Village();
        final Book book = new Book();
        final int[] helping = new int[MOST_PERSONS];
        final int[] thanking = new int[MOST_PERSONS];
        final byte[] sentenceBytes = new byte[SENTENCE_BYTES];
        int sentenceLength = 0;
        boolean filled = false;

        void beginVillage(Village other) {
            village.copyFrom(other);
            book.begin();
            Arrays.fill(helping, 0);
            Arrays.fill(thanking, 0);
            sentenceLength = 0;
        }

        void keepSentence(byte[] bytes, int length) {
            if (length < 0 || length > SENTENCE_BYTES || length > bytes.length) {
                return;
            }
            System.arraycopy(bytes, 0, sentenceBytes, 0, length);
            sentenceLength = length;
        }

        void copyFrom(State other) {
            village.copyFrom(other.village);
            book.copyFrom(other.book);
            System.arraycopy(other.helping, 0, helping, 0, MOST_PERSONS);
            System.arraycopy(other.thanking, 0, thanking, 0, MOST_PERSONS);
            keepSentence(other.sentenceBytes, other.sentenceLength);
        }
    }

    /** The tokens of a text, one at a time, and the first fault that a reader of them tells. */
    private static final class Tokens {
        /** In the order of the numbers below; each with a blank behind it. */
        static final String WORDS = "help person can needs friend sees binds out gift year helps hidden thanks leaves or and not bound free gained felt helped bonds broken ";

        static final int HELP = 0;
        static final int PERSON = 1;
        static final int CAN = 2;
        static final int NEEDS = 3;
        static final int FRIEND = 4;
        static final int SEES = 5;
        static final int BINDS = 6;
        static final int OUT = 7;
        static final int GIFT = 8;
        static final int YEAR = 9;
        static final int HELPS = 10;
        static final int HIDDEN = 11;
        static final int THANKS = 12;
        static final int LEAVES = 13;
        static final int OR = 14;
        static final int AND = 15;
        static final int NOT = 16;
        static final int BOUND = 17;
        static final int FREE = 18;
        static final int GAINED = 19;
        static final int BROKEN = 23;
        static final int NAME = 24;
        static final int NUMBER = 25;
        static final int SEMICOLON = 26;
        static final int LESS = 27;
        static final int EQUAL = 28;
        static final int MORE = 29;
        static final int OPEN = 30;
        static final int CLOSE = 31;
        static final int END = 32;
        static final int BAD = 33;

        static final int CANT_COME = 1;
        static final int NOT_IN_RANGE = 2;
        static final int WRONG_NAME = 3;
        static final int TOO_MANY = 4;

        /** Of the token here: what it is, where it begins, the number or the word as a number. */
        int kind = END;
        int place = 0;
        int value = 0;
        /** What was read by the latest take of a number. */
        int taken = 0;
        int fault = 0;
        int faultPlace = 0;

        private final int[] kinds = new int[MOST_TOKENS];
        private final int[] places = new int[MOST_TOKENS];
        private final int[] values = new int[MOST_TOKENS];
        private int many = 0;
        private int at = NONE;
        private int next = 0;

        /** Reads all tokens that begin ahead of the limit; behind them comes the end, or what is too much. */
        void open(byte[] text, int bytes, int limit) {
            int length = Math.max(0, Math.min(bytes, text.length));
            int bound = Math.min(length, limit);
            many = 0;
            next = 0;
            for (int i = 0; i < MOST_TOKENS && next < bound; i++) {
                int sign = text[next];
                if (isSmall(sign) || isDigit(sign)) {
                    readWordOrNumber(text, length);
                } else {
                    if (!isBlank(sign)) {
                        add(signKind(sign), next, 0);
                    }
                    next++;
                }
            }
            add(length > limit ? BAD : END, bound, 0);
            fault = 0;
            faultPlace = 0;
            at = NONE;
            advance();
        }

        private void readWordOrNumber(byte[] text, int length) {
            int from = next;
            int letters = 0;
            int word = 0;
            int number = 0;
            while (next < length && (isSmall(text[next]) || isDigit(text[next]))) {
                letters += isSmall(text[next]) ? 1 : 0;
                word = word * 27 + (text[next] - 'a' + 1);
                number = number * 10 + (text[next] - '0');
                next++;
            }
            int signs = next - from;
            if (letters == signs && signs <= 6) {
                add(wordKind(word), from, word);
            } else if (letters == 0 && signs <= 3) {
                add(NUMBER, from, number);
            } else {
                add(BAD, from, 0);
            }
        }

        private void add(int newKind, int newPlace, int newValue) {
            if (many < MOST_TOKENS) {
                kinds[many] = newKind;
                places[many] = newPlace;
                values[many] = newValue;
                many++;
            }
        }

        /** The last token, which is the end, stays when it is read over. */
        void advance() {
            at += at < many - 1 ? 1 : 0;
            if (at >= 0 && at < many) {
                kind = kinds[at];
                place = places[at];
                value = values[at];
            }
        }

        private static int wordKind(int word) {
            int number = 0;
            int sum = 0;
            for (int i = 0; i < WORDS.length(); i++) {
                if (WORDS.charAt(i) != ' ') {
                    sum = sum * 27 + (WORDS.charAt(i) - 'a' + 1);
                } else if (sum == word) {
                    return number;
                } else {
                    number++;
                    sum = 0;
                }
            }
            return NAME;
        }

        private static int signKind(int sign) {
            switch (sign) {
                case ';':
                    return SEMICOLON;
                case '<':
                    return LESS;
                case '=':
                    return EQUAL;
                case '>':
                    return MORE;
                case '(':
                    return OPEN;
                case ')':
                    return CLOSE;
                default:
                    return BAD;
            }
        }

        private static boolean isBlank(int sign) {
            return sign == 32 || sign == 10;
        }

        private static boolean isSmall(int sign) {
            return sign >= 'a' && sign <= 'z';
        }

        private static boolean isDigit(int sign) {
            return sign >= '0' && sign <= '9';
        }

        /** Tells a fault at the token here; false, for who tells it to answer. */
        boolean fail(int faultHere) {
            if (fault == 0) {
                fault = faultHere;
                faultPlace = place;
            }
            return false;
        }

        boolean take(int wanted) {
            if (kind != wanted) {
                return fail(CANT_COME);
            }
            advance();
            return true;
        }

        boolean takeNumber(int least, int most) {
            if (kind != NUMBER) {
                return fail(CANT_COME);
            }
            if (value < least || value > most) {
                return fail(NOT_IN_RANGE);
            }
            taken = value;
            advance();
            return true;
        }
    }

    /** What a village's text tells. */
    private static final class Village {
        int lines;
        int helps;
        int persons;
        int needs;
        int binds;
        int out;
        int gift;
        final int[] helpName = new int[MOST_HELPS];
        final int[] worth = new int[MOST_HELPS];
        final int[] hide = new int[MOST_HELPS];
        final int[] personName = new int[MOST_PERSONS];
        final int[] limit = new int[MOST_PERSONS];
        /** By person and help; 0: that one can't. */
        final int[] pains = new int[MOST_PERSONS * MOST_HELPS];
        final int[] friends = new int[MOST_PERSONS * MOST_PERSONS];
        final int[] sights = new int[MOST_PERSONS * MOST_PERSONS];
        final int[] needPerson = new int[MOST_NEEDS];
        final int[] needHelp = new int[MOST_NEEDS];

        Village() {
            begin();
        }

        void begin() {
            lines = 0;
            helps = 0;
            persons = 0;
            needs = 0;
            binds = 3;
            out = 50;
            gift = 10;
            Arrays.fill(pains, 0);
            Arrays.fill(friends, 0);
            Arrays.fill(sights, 0);
        }

        void copyFrom(Village other) {
            lines = other.lines;
            helps = other.helps;
            persons = other.persons;
            needs = other.needs;
            binds = other.binds;
            out = other.out;
            gift = other.gift;
            copyRow(other.helpName, helpName);
            copyRow(other.worth, worth);
            copyRow(other.hide, hide);
            copyRow(other.personName, personName);
            copyRow(other.limit, limit);
            copyRow(other.pains, pains);
            copyRow(other.friends, friends);
            copyRow(other.sights, sights);
            copyRow(other.needPerson, needPerson);
            copyRow(other.needHelp, needHelp);
        }

        boolean hasHelp(int k) {
            return k >= 0 && k < helps;
        }

        boolean hasPerson(int p) {
            return p >= 0 && p < persons;
        }

        boolean hasNeed(int n) {
            return n >= 0 && n < needs;
        }

        int helpNamed(int name) {
            return indexOf(helpName, helps, name);
        }

        int personNamed(int name) {
            return indexOf(personName, persons, name);
        }

        private static int indexOf(int[] row, int many, int number) {
            for (int i = 0; i < many && i < row.length; i++) {
                if (row[i] == number) {
                    return i;
                }
            }
            return NONE;
        }

        /** The help that is named here; NONE, with a fault told, if none is. */
        int helpAt(Tokens tokens) {
            return numberAt(tokens, helpNamed(tokens.value));
        }

        int personAt(Tokens tokens) {
            return numberAt(tokens, personNamed(tokens.value));
        }

        private static int numberAt(Tokens tokens, int named) {
            if (tokens.kind == Tokens.NAME && named >= 0) {
                return named;
            }
            tokens.fail(tokens.kind == Tokens.NAME ? Tokens.WRONG_NAME : Tokens.CANT_COME);
            return NONE;
        }

        int painsOf(int p, int k) {
            boolean told = p >= 0 && p < persons && k >= 0 && k < helps;
            return told ? pains[p * MOST_HELPS + k] : 0;
        }

        boolean can(int p, int k) {
            return painsOf(p, k) > 0;
        }

        /** Whether h can do what need n asks, for another one. */
        boolean canMeet(int h, int n) {
            boolean told = h >= 0 && h < persons && n >= 0 && n < needs;
            return told && h != needPerson[n] && painsOf(h, needHelp[n]) > 0;
        }

        int friendship(int p, int q) {
            return hasPerson(p) && hasPerson(q) ? friends[p * MOST_PERSONS + q] : 0;
        }

        int sight(int p, int q) {
            return hasPerson(p) && hasPerson(q) ? sights[p * MOST_PERSONS + q] : 0;
        }

        int needOf(int p, int k) {
            for (int n = 0; n < needs; n++) {
                if (needPerson[n] == p && needHelp[n] == k) {
                    return n;
                }
            }
            return NONE;
        }

        int canBits(int p) {
            int bits = 0;
            for (int k = 0; k < helps; k++) {
                bits |= can(p, k) ? 1 << k : 0;
            }
            return bits;
        }

        int needBits(int p) {
            int bits = 0;
            for (int n = 0; n < needs; n++) {
                bits |= needPerson[n] == p ? 1 << needHelp[n] : 0;
            }
            return bits;
        }

        /** Always seven factors, so that the parts are of 10^7 however few people there are. */
        int foundParts(int h) {
            int hidden = 1;
            for (int q = 0; q < MOST_PERSONS; q++) {
                hidden *= q == h ? 1 : 10 - sight(q, h);
            }
            return PARTS - hidden;
        }
    }

    /** Reads a village's text into a draft. */
    private static final class VillageText {
        final Tokens tokens = new Tokens();
        final Village draft = new Village();
        private boolean bindsTold = false;
        private boolean outTold = false;
        private boolean giftTold = false;

        boolean readAll(byte[] bytes, int length) {
            tokens.open(bytes, length, VILLAGE_BYTES);
            draft.begin();
            bindsTold = false;
            outTold = false;
            giftTold = false;
            for (int i = 0; i < MOST_TOKENS && tokens.kind != Tokens.END; i++) {
                if (!readLine() || !tokens.take(Tokens.SEMICOLON)) {
                    return false;
                }
                draft.lines++;
            }
            return true;
        }

        private boolean readLine() {
            switch (tokens.kind) {
                case Tokens.HELP:
                    return readHelp();
                case Tokens.PERSON:
                    return readPerson();
                case Tokens.FRIEND:
                    return readTie(draft.friends);
                case Tokens.SEES:
                    return readTie(draft.sights);
                case Tokens.BINDS:
                    return readBinds();
                case Tokens.OUT:
                    return readOut();
                case Tokens.GIFT:
                    return readGift();
                default:
                    return tokens.fail(Tokens.CANT_COME);
            }
        }

        private boolean readHelp() {
            int k = draft.helps;
            if (k >= MOST_HELPS) {
                return tokens.fail(Tokens.TOO_MANY);
            }
            tokens.advance();
            if (!isNewName()) {
                return false;
            }
            draft.helpName[k] = tokens.value;
            draft.helps++;
            tokens.advance();
            if (!tokens.takeNumber(1, 99)) {
                return false;
            }
            draft.worth[k] = tokens.taken;
            if (!tokens.takeNumber(0, 99)) {
                return false;
            }
            draft.hide[k] = tokens.taken;
            return true;
        }

        private boolean isNewName() {
            if (tokens.kind != Tokens.NAME) {
                return tokens.fail(Tokens.CANT_COME);
            }
            if (draft.helpNamed(tokens.value) >= 0 || draft.personNamed(tokens.value) >= 0) {
                return tokens.fail(Tokens.WRONG_NAME);
            }
            return true;
        }

        private boolean readPerson() {
            int p = draft.persons;
            if (p >= MOST_PERSONS) {
                return tokens.fail(Tokens.TOO_MANY);
            }
            tokens.advance();
            if (!isNewName()) {
                return false;
            }
            draft.personName[p] = tokens.value;
            draft.persons++;
            tokens.advance();
            if (!tokens.takeNumber(0, 9)) {
                return false;
            }
            draft.limit[p] = tokens.taken;
            boolean good = true;
            for (int i = 0; i < MOST_TOKENS && good && tokens.kind != Tokens.SEMICOLON; i++) {
                if (tokens.kind == Tokens.CAN) {
                    good = readCan(p);
                } else if (tokens.kind == Tokens.NEEDS) {
                    good = readNeed(p);
                } else {
                    good = tokens.fail(Tokens.CANT_COME);
                }
            }
            return good;
        }

        private boolean readCan(int p) {
            tokens.advance();
            int k = draft.helpAt(tokens);
            if (k < 0) {
                return false;
            }
            if (draft.can(p, k)) {
                return tokens.fail(Tokens.WRONG_NAME);
            }
            tokens.advance();
            if (!tokens.takeNumber(1, 99)) {
                return false;
            }
            draft.pains[p * MOST_HELPS + k] = tokens.taken;
            return true;
        }

        private boolean readNeed(int p) {
            tokens.advance();
            int k = draft.helpAt(tokens);
            if (k < 0) {
                return false;
            }
            if (draft.needOf(p, k) >= 0 || draft.needs >= MOST_NEEDS) {
                return tokens.fail(Tokens.WRONG_NAME);
            }
            draft.needPerson[draft.needs] = p;
            draft.needHelp[draft.needs] = k;
            draft.needs++;
            tokens.advance();
            return true;
        }

        private boolean readTie(int[] ties) {
            tokens.advance();
            int p = draft.personAt(tokens);
            if (p < 0) {
                return false;
            }
            tokens.advance();
            int q = draft.personAt(tokens);
            if (q < 0) {
                return false;
            }
            int at = p * MOST_PERSONS + q;
            if (p == q || ties[at] != 0) {
                return tokens.fail(Tokens.WRONG_NAME);
            }
            tokens.advance();
            if (!tokens.takeNumber(1, 10)) {
                return false;
            }
            ties[at] = tokens.taken;
            return true;
        }

        private boolean readBinds() {
            if (bindsTold) {
                return tokens.fail(Tokens.WRONG_NAME);
            }
            bindsTold = true;
            tokens.advance();
            if (!tokens.takeNumber(1, MOST_BINDS)) {
                return false;
            }
            draft.binds = tokens.taken;
            return true;
        }

        private boolean readOut() {
            if (outTold) {
                return tokens.fail(Tokens.WRONG_NAME);
            }
            outTold = true;
            tokens.advance();
            if (!tokens.takeNumber(0, 999)) {
                return false;
            }
            draft.out = tokens.taken;
            return true;
        }

        private boolean readGift() {
            if (giftTold) {
                return tokens.fail(Tokens.WRONG_NAME);
            }
            giftTold = true;
            tokens.advance();
            if (!tokens.takeNumber(0, 99)) {
                return false;
            }
            draft.gift = tokens.taken;
            return true;
        }
    }

    /** Who is bound to which need, and until when; by a book as by a run. */
    private static final class Bonds {
        /** The year of the thanks that began the bond, and the last year that it holds; NONE: no bond. */
        private final int[] made = new int[MOST_BONDS];
        private final int[] last = new int[MOST_BONDS];
        /** Who was ever bound, as bits. */
        int ever = 0;

        Bonds() {
            begin();
        }

        void begin() {
            Arrays.fill(made, NONE);
            Arrays.fill(last, NONE);
            ever = 0;
        }

        void copyFrom(Bonds other) {
            copyRow(other.made, made);
            copyRow(other.last, last);
            ever = other.ever;
        }

        private static boolean isBond(int p, int n) {
            return p >= 0 && p < MOST_PERSONS && n >= 0 && n < MOST_NEEDS;
        }

        int lastYear(int p, int n) {
            return isBond(p, n) ? last[p * MOST_NEEDS + n] : NONE;
        }

        /** Whether it is to be done in this very year. */
        boolean isDue(int p, int n, int year) {
            int at = p * MOST_NEEDS + n;
            return isBond(p, n) && made[at] < year && last[at] >= year;
        }

        /** How many bonds of p hold in a year or a later one. */
        int standing(int p, int year) {
            int many = 0;
            for (int at = p * MOST_NEEDS; at >= 0 && at < (p + 1) * MOST_NEEDS && at < MOST_BONDS; at++) {
                many += last[at] >= year ? 1 : 0;
            }
            return many;
        }

        boolean isAbove(Village v, int p, int n, int year) {
            boolean already = isBond(p, n) && last[p * MOST_NEEDS + n] >= year;
            return v.hasPerson(p) && !already && standing(p, year) >= v.limit[p];
        }

        /** Counts the years anew from the next one; thanks take nothing from what is due in this year already. */
        void bind(int p, int n, int year, int years) {
            if (isBond(p, n)) {
                int at = p * MOST_NEEDS + n;
                made[at] = last[at] < year ? year : made[at];
                last[at] = year + years;
                ever |= 1 << p;
            }
        }

        void drop(int p, int n) {
            if (isBond(p, n)) {
                last[p * MOST_NEEDS + n] = NONE;
            }
        }
    }

    /** A book as it is judged, line by line. */
    private static final class Book {
        static final int WRONG_CANT = 1;
        static final int WRONG_NO_NEED = 2;
        static final int WRONG_DONE = 3;
        static final int WRONG_NOT_DONE = 4;
        static final int WRONG_THANKED_CANT = 5;
        static final int WRONG_NOT_BOUND = 6;
        static final int WRONG_LIMIT = 7;

        int lines = 0;
        int year = 0;
        int wrongLines = 0;
        int astray = 0;
        final int[] wrongs = new int[MOST_LINES];
        final int[] gained = new int[MOST_PERSONS];
        final int[] helped = new int[MOST_PERSONS];
        final int[] broken = new int[MOST_PERSONS];
        final Bonds bonds = new Bonds();
        /** Who met each need in the year; NONE: nobody. */
        private final int[] doneBy = new int[MOST_NEEDS];

        Book() {
            begin();
        }

        void begin() {
            lines = 0;
            year = 0;
            wrongLines = 0;
            astray = 0;
            Arrays.fill(gained, 0);
            Arrays.fill(helped, 0);
            Arrays.fill(broken, 0);
            Arrays.fill(doneBy, NONE);
            bonds.begin();
        }

        void copyFrom(Book other) {
            lines = other.lines;
            year = other.year;
            wrongLines = other.wrongLines;
            astray = other.astray;
            copyRow(other.wrongs, wrongs);
            copyRow(other.gained, gained);
            copyRow(other.helped, helped);
            copyRow(other.broken, broken);
            bonds.copyFrom(other.bonds);
        }

        /** Puts the next line's wrong behind the others. */
        void addLine(int wrong) {
            if (lines < MOST_LINES) {
                wrongs[lines] = wrong;
                wrongLines += wrong != 0 ? 1 : 0;
                lines++;
            }
        }

        void beginYear(Village v, int next) {
            for (int ended = year; ended < next; ended++) {
                endYear(v, ended);
                Arrays.fill(doneBy, NONE);
            }
            year = next;
        }

        void endYear(Village v, int ended) {
            for (int p = 0; p < v.persons; p++) {
                boolean everBound = (bonds.ever >> p & 1) == 1;
                for (int n = 0; everBound && n < v.needs; n++) {
                    if (bonds.isDue(p, n, ended) && doneBy[n] != p) {
                        broken[p]++;
                    }
                }
            }
        }

        int tellHelp(Village v, int p, int q, int k, boolean hidden) {
            int n = v.needOf(q, k);
            if (!v.can(p, k)) {
                return WRONG_CANT;
            }
            if (n < 0) {
                return WRONG_NO_NEED;
            }
            if (doneBy[n] != NONE) {
                return WRONG_DONE;
            }
            doneBy[n] = p;
            helped[p]++;
            gained[p] -= v.painsOf(p, k) + (hidden ? v.hide[k] : 0);
            gained[q] += v.worth[k];
            return 0;
        }

        int tellThanks(Village v, int p, int q, int k) {
            int n = v.needOf(p, k);
            if (n < 0 || doneBy[n] == NONE) {
                return WRONG_NOT_DONE;
            }
            if (!v.can(q, k)) {
                return WRONG_THANKED_CANT;
            }
            if (bonds.isAbove(v, q, n, year)) {
                return WRONG_LIMIT;
            }
            bonds.bind(q, n, year, v.binds);
            astray += doneBy[n] != q ? 1 : 0;
            return 0;
        }

        int tellLeaving(Village v, int p, int q, int k) {
            int n = v.needOf(q, k);
            if (n < 0 || bonds.lastYear(p, n) < year) {
                return WRONG_NOT_BOUND;
            }
            bonds.drop(p, n);
            gained[p] -= v.out;
            return 0;
        }

        int yearsBehind(int p, int n) {
            return Math.max(0, bonds.lastYear(p, n) - year);
        }

        int felt(Village v, int p) {
            int sum = gained[p];
            for (int q = 0; q < v.persons; q++) {
                sum += v.friendship(p, q) * gained[q] / 10;
            }
            return sum;
        }

        /** What came of person p: numbered as the sentences' words are, from gained on. */
        int figure(Village v, int p, int what) {
            if (!v.hasPerson(p)) {
                return 0;
            }
            switch (what) {
                case 0:
                    return gained[p];
                case 1:
                    return felt(v, p);
                case 2:
                    return helped[p];
                case 3:
                    return bonds.standing(p, year + 1);
                default:
                    return broken[p];
            }
        }
    }

    /** Reads a book's text and has each line judged as it goes along. */
    private static final class BookText {
        final Tokens tokens = new Tokens();
        final Book draft = new Book();
        /** Of the line that was read: its verb, or YEAR; the year, or who, whom and what help. */
        private int verb = 0;
        private int nextYear = 0;
        private int who = 0;
        private int whom = 0;
        private int deed = 0;
        private boolean hidden = false;

        boolean readAll(byte[] bytes, int length, Village v) {
            tokens.open(bytes, length, BOOK_BYTES);
            draft.begin();
            for (int i = 0; i < MOST_TOKENS && tokens.kind != Tokens.END; i++) {
                if (!readLine(v) || !tokens.take(Tokens.SEMICOLON)) {
                    return false;
                }
                draft.addLine(judgeLine(v));
            }
            draft.endYear(v, draft.year);
            return true;
        }

        private boolean readLine(Village v) {
            boolean isYear = tokens.kind == Tokens.YEAR;
            who = isYear ? NONE : v.personAt(tokens);
            if (!isYear && who < 0) {
                return false;
            }
            if (draft.lines >= MOST_LINES) {
                return tokens.fail(Tokens.TOO_MANY);
            }
            tokens.advance();
            return isYear ? readYear() : readDeed(v);
        }

        private boolean readYear() {
            int least = draft.lines == 0 ? 0 : draft.year + 1;
            if (!tokens.takeNumber(least, 99)) {
                return false;
            }
            verb = Tokens.YEAR;
            nextYear = tokens.taken;
            return true;
        }

        private boolean readDeed(Village v) {
            verb = tokens.kind;
            if (verb != Tokens.HELPS && verb != Tokens.THANKS && verb != Tokens.LEAVES) {
                return tokens.fail(Tokens.CANT_COME);
            }
            tokens.advance();
            whom = v.personAt(tokens);
            if (whom < 0) {
                return false;
            }
            if (whom == who) {
                return tokens.fail(Tokens.WRONG_NAME);
            }
            tokens.advance();
            deed = v.helpAt(tokens);
            if (deed < 0) {
                return false;
            }
            tokens.advance();
            hidden = verb == Tokens.HELPS && tokens.kind == Tokens.HIDDEN;
            if (hidden) {
                tokens.advance();
            }
            return true;
        }

        private int judgeLine(Village v) {
            switch (verb) {
                case Tokens.HELPS:
                    return draft.tellHelp(v, who, whom, deed, hidden);
                case Tokens.THANKS:
                    return draft.tellThanks(v, who, whom, deed);
                case Tokens.LEAVES:
                    return draft.tellLeaving(v, who, whom, deed);
                default:
                    draft.beginYear(v, nextYear);
                    return 0;
            }
        }
    }

    /** Reads a sentence's text; while it reads, it finds of whom it may be said. */
    private static final class SentenceText {
        static final int MOST_ONES = 20;
        static final int MOST_DEPTH = 8;
        static final int FIGURES = 5;

        final Tokens tokens = new Tokens();
        int ones = 0;
        /** Of whom it may be said, as bits. */
        int people = 0;
        private int everyone = 0;
        private final int[] figures = new int[MOST_PERSONS * FIGURES];
        private int boundPeople = 0;
        private int freePeople = 0;

        boolean readAll(byte[] bytes, int length, Village v, Book book) {
            tokens.open(bytes, length, SENTENCE_BYTES);
            ones = 0;
            look(v, book);
            people = readCond(1);
            if (tokens.fault == 0 && tokens.kind != Tokens.END) {
                tokens.fail(Tokens.CANT_COME);
            }
            return tokens.fault == 0;
        }

        private void look(Village v, Book book) {
            everyone = (1 << v.persons) - 1;
            boundPeople = 0;
            freePeople = everyone & ~book.bonds.ever;
            for (int p = 0; p < v.persons && p < MOST_PERSONS; p++) {
                for (int what = 0; what < FIGURES; what++) {
                    figures[p * FIGURES + what] = book.figure(v, p, what);
                }
                boundPeople |= figures[p * FIGURES + 3] > 0 ? 1 << p : 0;
            }
        }

        private int readCond(int depth) {
            int bits = readAnds(depth);
            for (int i = 0; i < MOST_ONES && goesOn(Tokens.OR); i++) {
                tokens.advance();
                bits |= readAnds(depth);
            }
            return bits;
        }

        private int readAnds(int depth) {
            int bits = readOne(depth);
            for (int i = 0; i < MOST_ONES && goesOn(Tokens.AND); i++) {
                tokens.advance();
                bits &= readOne(depth);
            }
            return bits;
        }

        private boolean goesOn(int kind) {
            return tokens.fault == 0 && tokens.kind == kind;
        }

        private int readOne(int depth) {
            int kind = tokens.kind;
            boolean isFigure = kind >= Tokens.GAINED && kind <= Tokens.BROKEN;
            if (kind != Tokens.NOT && kind != Tokens.OPEN && kind != Tokens.BOUND
                && kind != Tokens.FREE && !isFigure) {
                tokens.fail(Tokens.CANT_COME);
                return 0;
            }
            if (ones >= MOST_ONES || depth > MOST_DEPTH) {
                tokens.fail(Tokens.TOO_MANY);
                return 0;
            }
            ones++;
            tokens.advance();
            if (kind == Tokens.NOT) {
                return readNot(depth + 1);
            }
            if (kind == Tokens.OPEN) {
                return readBracket(depth + 1);
            }
            if (isFigure) {
                return readFigure(kind - Tokens.GAINED);
            }
            return kind == Tokens.BOUND ? boundPeople : freePeople;
        }

        private int readNot(int depth) {
            return everyone & ~readOne(depth);
        }

        private int readBracket(int depth) {
            int bits = readCond(depth);
            if (tokens.fault == 0) {
                tokens.take(Tokens.CLOSE);
            }
            return bits;
        }

        private int readFigure(int what) {
            int sign = tokens.kind;
            if (sign != Tokens.LESS && sign != Tokens.EQUAL && sign != Tokens.MORE) {
                tokens.fail(Tokens.CANT_COME);
                return 0;
            }
            tokens.advance();
            if (!tokens.takeNumber(0, 999)) {
                return 0;
            }
            int bits = 0;
            for (int p = 0; p < MOST_PERSONS; p++) {
                boolean holds = compare(figures[p * FIGURES + what], tokens.taken, sign);
                bits |= holds ? 1 << p : 0;
            }
            return bits & everyone;
        }

        private static boolean compare(int figure, int number, int sign) {
            if (sign == Tokens.LESS) {
                return figure < number;
            }
            return sign == Tokens.EQUAL ? figure == number : figure > number;
        }
    }

    /** V and what is done, by the years left and the years bound, from the last year back. */
    private static final class Best {
        private static final int WIDTH = MOST_BINDS + 1;

        private final long[] values = new long[(MOST_LEFT_YEARS + 1) * WIDTH];
        private final int[] acts = new int[(MOST_LEFT_YEARS + 1) * WIDTH];
        private long byDay = 0;
        private long byNight = 0;
        private long found = 0;

        void fill(Village v, int h, int n, int years, int law) {
            Arrays.fill(values, 0);
            Arrays.fill(acts, DOES_NONE);
            if (!v.canMeet(h, n)) {
                return;
            }
            int k = v.needHelp[n];
            long felt = 100000L * v.friendship(h, v.needPerson[n]) * v.worth[k];
            byDay = felt - MILLION * v.painsOf(h, k);
            byNight = byDay - MILLION * v.hide[k];
            found = v.foundParts(h);
            for (int t = 1; t <= years && t <= MOST_LEFT_YEARS; t++) {
                fillFree(v, t, law);
                for (int b = 1; b <= v.binds && b < WIDTH; b++) {
                    fillBound(v, t, b);
                }
            }
        }

        private void fillFree(Village v, int t, int law) {
            long none = valueAt(t - 1, 0);
            long thanked = none;
            if (law == LAW_BIND) {
                thanked = valueAt(t - 1, v.binds);
            } else if (law == LAW_GIFT) {
                thanked = none + MILLION * v.gift;
            }
            long night = byNight + thanked * found / PARTS + none * (PARTS - found) / PARTS;
            long day = byDay + thanked;
            put(t, 0, none, DOES_NONE);
            if (night > valueAt(t, 0)) {
                put(t, 0, night, DOES_NIGHT);
            }
            if (day > valueAt(t, 0)) {
                put(t, 0, day, DOES_DAY);
            }
        }

        private void fillBound(Village v, int t, int b) {
            long stays = byDay + valueAt(t - 1, b - 1);
            long leaves = valueAt(t - 1, 0) - MILLION * v.out;
            put(t, b, Math.max(stays, leaves), stays >= leaves ? DOES_DAY : DOES_LEAVE);
        }

        private void put(int t, int b, long value, int act) {
            if (isInside(t, b)) {
                values[t * WIDTH + b] = value;
                acts[t * WIDTH + b] = act;
            }
        }

        private static boolean isInside(int t, int b) {
            return t >= 0 && t <= MOST_LEFT_YEARS && b >= 0 && b < WIDTH;
        }

        long valueAt(int t, int b) {
            return isInside(t, b) ? values[t * WIDTH + b] : 0;
        }

        int actAt(int t, int b) {
            return isInside(t, b) ? acts[t * WIDTH + b] : DOES_NONE;
        }

        /** What is done by who is not bound, two bits for each number of years left. */
        long freePlan() {
            long plan = 0;
            for (int t = 0; t <= MOST_LEFT_YEARS; t++) {
                plan |= (long) actAt(t, 0) << 2 * t;
            }
            return plan;
        }
    }

    /** A run of years; what it came to stays until the next one. */
    private static final class Run {
        static final int HELP_NEVER = 0;
        static final int HELP_OPEN = 1;
        static final int HELP_NIGHT = 2;
        static final int HELP_BEST = 3;
        static final int HELP_PAIR = 4;

        static final int THANK_NEVER = 0;
        static final int THANK_NEEDED = 2;
        static final int THANK_OTHER = 3;

        static final int BY_DAY = 0;
        static final int BY_NIGHT = 1;
        static final int FOUND = 2;
        static final int THANKS = 3;
        static final int ASTRAY = 4;
        static final int STAND = 5;
        static final int UNMET = 6;
        static final int GAINED = 7;
        static final int FIGURES = 8;

        boolean ran = false;
        int persons = 0;
        final int[] helped = new int[MOST_PERSONS];
        private final int[] figures = new int[FIGURES];
        private final Village village = new Village();
        private final int[] helping = new int[MOST_PERSONS];
        private final int[] thanking = new int[MOST_PERSONS];
        private final Bonds bonds = new Bonds();
        private final Best best = new Best();
        /** By person and need: what would be done under BIND, and under NOTHING. */
        private final long[] bindPlans = new long[MOST_BONDS];
        private final long[] nothingPlans = new long[MOST_BONDS];
        private int seed = 0;

        int figure(int what) {
            return what >= 0 && what < FIGURES ? figures[what] : 0;
        }

        void go(State state, int years, int newSeed) {
            village.copyFrom(state.village);
            copyRow(state.helping, helping);
            copyRow(state.thanking, thanking);
            ran = true;
            persons = village.persons;
            seed = newSeed;
            Arrays.fill(helped, 0);
            Arrays.fill(figures, 0);
            figures[STAND] = NONE;
            bonds.begin();
            makePlans(Math.min(years, MOST_LEFT_YEARS));
            for (int year = 0; year < years && year < MOST_RUN_YEARS; year++) {
                int t = Math.min(years - year, MOST_LEFT_YEARS);
                for (int n = 0; n < village.needs; n++) {
                    meet(year, n, t);
                }
            }
        }

        private void makePlans(int years) {
            for (int h = 0; h < persons; h++) {
                for (int n = 0; n < village.needs; n++) {
                    if (village.canMeet(h, n)) {
                        makePlan(h, n, years);
                    }
                }
            }
        }

        private void makePlan(int h, int n, int years) {
            int at = h * MOST_NEEDS + n;
            if (helping[h] == HELP_BEST) {
                best.fill(village, h, n, years, LAW_BIND);
                bindPlans[at] = best.freePlan();
            }
            if (thanking[village.needPerson[n]] == THANK_NEEDED) {
                best.fill(village, h, n, years, LAW_NOTHING);
                nothingPlans[at] = best.freePlan();
            }
        }

        private static int planned(long plan, int t) {
            return (int) (plan >>> 2 * t) & 3;
        }

        private void meet(int year, int n, int t) {
            for (int h = 0; h < persons; h++) {
                if (bonds.isDue(h, n, year)) {
                    helpByDay(h, n);
                    return;
                }
            }
            for (int h = 0; h < persons; h++) {
                int does = village.canMeet(h, n) ? freeAct(h, n, t) : DOES_NONE;
                if (does == DOES_DAY) {
                    helpByDay(h, n);
                    thank(year, n, t, h, NONE);
                    return;
                }
                if (does == DOES_NIGHT) {
                    helpByNight(year, n, t, h);
                    return;
                }
            }
            figures[UNMET]++;
        }

        private int freeAct(int h, int n, int t) {
            switch (helping[h]) {
                case HELP_OPEN:
                    return DOES_DAY;
                case HELP_NIGHT:
                    return DOES_NIGHT;
                case HELP_BEST:
                    return planned(bindPlans[h * MOST_NEEDS + n], t);
                case HELP_PAIR:
                    return partnerOf(h, n) >= 0 ? DOES_NIGHT : DOES_NONE;
                default:
                    return DOES_NONE;
            }
        }

        private int partnerOf(int h, int n) {
            for (int q = h + 1; q < persons; q++) {
                if (helping[q] == HELP_PAIR && village.canMeet(q, n)) {
                    return q;
                }
            }
            return NONE;
        }

        private void helpByDay(int h, int n) {
            int k = village.needHelp[n];
            figures[BY_DAY]++;
            figures[GAINED] += village.worth[k] - village.painsOf(h, k);
            helped[h]++;
        }

        private void helpByNight(int year, int n, int t, int h) {
            int k = village.needHelp[n];
            int second = helping[h] == HELP_PAIR ? partnerOf(h, n) : NONE;
            figures[BY_NIGHT]++;
            figures[GAINED] += village.worth[k];
            boolean found;
            if (second < 0) {
                figures[GAINED] -= village.painsOf(h, k) + village.hide[k];
                helped[h]++;
                found = isFound(h);
            } else {
                figures[GAINED] -= halfUp(village.painsOf(h, k)) + halfUp(village.hide[k]);
                figures[GAINED] -= halfUp(village.painsOf(second, k)) + halfUp(village.hide[k]);
                helped[h]++;
                helped[second]++;
                boolean firstFound = isFound(h);
                boolean secondFound = isFound(second);
                found = firstFound && secondFound;
            }
            if (found) {
                figures[FOUND]++;
                thank(year, n, t, h, second);
            }
        }

        private static int halfUp(int number) {
            return (number + 1) / 2;
        }

        /** All who see h draw, even when one of them has found it already. */
        private boolean isFound(int h) {
            boolean found = false;
            for (int q = 0; q < persons; q++) {
                int sight = village.sight(q, h);
                if (sight > 0 && draw(10) < sight) {
                    found = true;
                }
            }
            return found;
        }

        private int draw(int n) {
            seed = seed * 1103515245 + 12345;
            return n > 0 ? (seed >>> 8) % n : 0;
        }

        private void thank(int year, int n, int t, int h, int second) {
            int way = thanking[village.needPerson[n]];
            if (way == THANK_NEVER) {
                return;
            }
            if (way == THANK_NEEDED && planned(nothingPlans[h * MOST_NEEDS + n], t) != DOES_NONE) {
                return;
            }
            int to = way == THANK_OTHER ? firstOther(h, n) : h;
            figures[THANKS]++;
            figures[ASTRAY] += to != h && to != second ? 1 : 0;
            if (!bonds.isAbove(village, to, n, year)) {
                bonds.bind(to, n, year, village.binds);
            } else if (figures[STAND] == NONE) {
                figures[STAND] = year;
            }
        }

        private int firstOther(int h, int n) {
            for (int q = 0; q < persons; q++) {
                if (q != h && village.canMeet(q, n)) {
                    return q;
                }
            }
            return h;
        }
    }

    /** By whom the most needs are met, if each person meets so many of others' at most. */
    private static final class Left {
        int needs = 0;
        /** By whom each need is met; NONE: by nobody. */
        final int[] by = new int[MOST_NEEDS];
        private int most = 0;
        private final int[] able = new int[MOST_NEEDS];
        private final int[] load = new int[MOST_PERSONS];
        private final int[] byBefore = new int[MOST_NEEDS];
        private final int[] loadBefore = new int[MOST_PERSONS];
        private final int[] queue = new int[MOST_PERSONS];
        private int queued = 0;
        private int reached = 0;
        /** For which need each person was reached. */
        private final int[] reachedFor = new int[MOST_PERSONS];

        int solve(Village v, int m) {
            needs = v.needs;
            most = m;
            Arrays.fill(by, NONE);
            Arrays.fill(load, 0);
            for (int n = 0; n < needs && n < MOST_NEEDS; n++) {
                able[n] = 0;
                for (int q = 0; q < v.persons; q++) {
                    able[n] |= v.canMeet(q, n) ? 1 << q : 0;
                }
            }
            int met = 0;
            for (int n = 0; n < needs; n++) {
                met += improve(n, 0) ? 1 : 0;
            }
            for (int n = 0; n < needs; n++) {
                settle(n);
            }
            return met;
        }

        /** Gives need n to the least person with whom as many needs are met as before. */
        private void settle(int n) {
            for (int q = 0; q < MOST_PERSONS && by[n] != q; q++) {
                if ((able[n] >> q & 1) == 1 && force(n, q)) {
                    return;
                }
            }
        }

        /** Gives need n to q; false, and nothing, if fewer were met then. Needs ahead of n stay. */
        private boolean force(int n, int q) {
            copyRow(by, byBefore);
            copyRow(load, loadBefore);
            boolean wasMet = by[n] >= 0;
            take(n);
            boolean full = load[q] >= most;
            boolean roomMade = !full || displaceOne(q, n + 1);
            if (roomMade) {
                give(n, q);
            }
            // one is lost if n was met and a later one gives way to it: another one must come then
            if (roomMade && (!full || !wasMet || improveAny(n + 1))) {
                return true;
            }
            copyRow(byBefore, by);
            copyRow(loadBefore, load);
            return false;
        }

        private void take(int n) {
            int q = by[n];
            if (q >= 0 && q < MOST_PERSONS) {
                load[q]--;
            }
            by[n] = NONE;
        }

        private void give(int n, int q) {
            by[n] = q;
            load[q]++;
        }

        private boolean displaceOne(int q, int from) {
            for (int n = from; n < needs; n++) {
                if (by[n] == q) {
                    take(n);
                    return true;
                }
            }
            return false;
        }

        private boolean improveAny(int from) {
            for (int n = from; n < needs; n++) {
                if (by[n] < 0 && improve(n, from)) {
                    return true;
                }
            }
            return false;
        }

        /** Meets need n too, if needs from a number on may change hands; false: it can't be. */
        private boolean improve(int n, int from) {
            queued = 0;
            reached = 0;
            reach(n);
            for (int i = 0; i < queued && i < MOST_PERSONS; i++) {
                int q = queue[i];
                if (load[q] < most) {
                    shift(q);
                    return true;
                }
                for (int other = from; other < needs; other++) {
                    if (by[other] == q) {
                        reach(other);
                    }
                }
            }
            return false;
        }

        private void reach(int n) {
            for (int q = 0; q < MOST_PERSONS; q++) {
                if (((able[n] & ~reached) >> q & 1) == 1 && queued < MOST_PERSONS) {
                    reached |= 1 << q;
                    reachedFor[q] = n;
                    queue[queued] = q;
                    queued++;
                }
            }
        }

        /** Hands the needs on along the way on which q was reached. */
        private void shift(int q) {
            load[q]++;
            int to = q;
            for (int i = 0; i < MOST_PERSONS && to >= 0 && to < MOST_PERSONS; i++) {
                int n = reachedFor[to];
                int before = by[n];
                by[n] = to;
                to = before;
            }
        }
    }
}
