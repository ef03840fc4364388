import java.math.BigInteger;
import java.util.ArrayList;
import java.util.HashMap;
import java.util.List;
import java.util.Map;
import java.util.TreeMap;
import java.util.TreeSet;
import java.util.regex.Matcher;
import java.util.regex.Pattern;

/** The document once more, in another way and without care for speed; the tests compare with it. */
final class Plain {
    static final class Fault extends RuntimeException {
        final int kind;
        final int place;

        Fault(int kind, int place) {
            this.kind = kind;
            this.place = place;
        }
    }

    record Token(String text, int place) {
    }

    interface Of {
        boolean person(int p);
    }

    private static final List<String> KEPT = List.of("help", "person", "can", "needs", "friend", "sees", "binds", "out",
        "gift", "year", "helps", "hidden", "thanks", "leaves", "or", "and", "not", "bound", "free", "gained", "felt",
        "helped", "bonds", "broken");
    private static final Pattern PART = Pattern.compile("[a-z0-9]+|[^ \\n]");

    // the text
    private final List<Token> tokens = new ArrayList<>();
    private int at;

    // the village
    List<String> helps = new ArrayList<>();
    List<int[]> helpNumbers = new ArrayList<>();
    List<String> persons = new ArrayList<>();
    List<Integer> limits = new ArrayList<>();
    Map<List<Integer>, Integer> pains = new HashMap<>();
    Map<List<Integer>, Integer> friend = new HashMap<>();
    Map<List<Integer>, Integer> sees = new HashMap<>();
    List<List<Integer>> needs = new ArrayList<>();
    Map<String, Integer> once = new HashMap<>();
    int lines;

    // the book
    List<Integer> wrongs = new ArrayList<>();
    int astray;
    int[] gained = new int[8];
    int[] helped = new int[8];
    int[] broken = new int[8];
    /** The years for which who (first) is bound to the need (second). */
    Map<List<Integer>, TreeSet<Integer>> bonds = new TreeMap<>(Plain::compare);
    TreeSet<Integer> everBound = new TreeSet<>();
    int lastYear;

    // the sentence
    int ones;
    Of sentence;

    // the run
    int[] ran = new int[8];
    int[] ranOf = new int[8];
    int[] helping = new int[8];
    int[] thanking = new int[8];
    private int seed;

    private static int compare(List<Integer> a, List<Integer> b) {
        return a.get(0) != b.get(0).intValue() ? a.get(0) - b.get(0) : a.get(1) - b.get(1);
    }

    // ---- tokens

    private void open(String text, int limit) {
        tokens.clear();
        at = 0;
        Matcher part = PART.matcher(text);
        while (part.find() && part.start() < limit) {
            tokens.add(new Token(part.group(), part.start()));
        }
        tokens.add(new Token(text.length() > limit ? "TOO LONG" : "END", Math.min(limit, text.length())));
    }

    private Token here() {
        return tokens.get(at);
    }

    private boolean is(String text) {
        return here().text.equals(text);
    }

    private Fault fault(int kind) {
        return new Fault(kind, here().place);
    }

    private void take(String text) {
        if (!is(text)) {
            throw fault(1);
        }
        at++;
    }

    private int number(int least, int most) {
        if (!here().text.matches("[0-9]{1,3}")) {
            throw fault(1);
        }
        int number = Integer.parseInt(here().text);
        if (number < least || number > most) {
            throw fault(2);
        }
        at++;
        return number;
    }

    private String name() {
        if (!here().text.matches("[a-z]{1,6}") || KEPT.contains(here().text)) {
            throw fault(1);
        }
        return here().text;
    }

    private String newName() {
        String name = name();
        if (helps.contains(name) || persons.contains(name)) {
            throw fault(3);
        }
        at++;
        return name;
    }

    private int told(List<String> among) {
        int number = among.indexOf(name());
        if (number < 0) {
            throw fault(3);
        }
        at++;
        return number;
    }

    // ---- village

    static Plain village(String text) {
        Plain v = new Plain();
        v.open(text, 900);
        while (!v.is("END")) {
            v.line();
            v.take(";");
            v.lines++;
        }
        return v;
    }

    private void line() {
        String first = here().text;
        if (first.equals("help") && helps.size() == 6 || first.equals("person") && persons.size() == 8
            ) {
            throw fault(4);
        }
        if (once.containsKey(first)) {
            throw fault(3);
        }
        switch (first) {
            case "help" -> {
                at++;
                helps.add(newName());
                helpNumbers.add(new int[] {number(1, 99), number(0, 99)});
            }
            case "person" -> {
                at++;
                persons.add(newName());
                limits.add(number(0, 9));
                while (!is(";")) {
                    skill(persons.size() - 1);
                }
            }
            case "friend" -> tie(friend);
            case "sees" -> tie(sees);
            case "binds" -> single(first, 1, 9);
            case "out" -> single(first, 0, 999);
            case "gift" -> single(first, 0, 99);
            default -> throw fault(1);
        }
    }

    private void single(String word, int least, int most) {
        at++;
        once.put(word, number(least, most));
    }

    private void skill(int p) {
        boolean can = is("can");
        if (!can && !is("needs")) {
            throw fault(1);
        }
        at++;
        int k = told(helps);
        List<Integer> key = List.of(p, k);
        if (can ? pains.containsKey(key) : needs.contains(key)) {
            at--;
            throw fault(3);
        }
        if (can) {
            pains.put(key, number(1, 99));
        } else {
            needs.add(key);
        }
    }

    private void tie(Map<List<Integer>, Integer> ties) {
        at++;
        int p = told(persons);
        int q = told(persons);
        if (p == q || ties.containsKey(List.of(p, q))) {
            at--;
            throw fault(3);
        }
        ties.put(List.of(p, q), number(1, 10));
    }

    int binds() {
        return once.getOrDefault("binds", 3);
    }

    int out() {
        return once.getOrDefault("out", 50);
    }

    int gift() {
        return once.getOrDefault("gift", 10);
    }

    boolean can(int p, int k) {
        return pains.containsKey(List.of(p, k));
    }

    boolean helper(int h, int n) {
        return h != needs.get(n).get(0) && can(h, needs.get(n).get(1));
    }

    int pain(int h, int n) {
        return pains.get(List.of(h, needs.get(n).get(1)));
    }

    int worth(int n) {
        return helpNumbers.get(needs.get(n).get(1))[0];
    }

    int hide(int n) {
        return helpNumbers.get(needs.get(n).get(1))[1];
    }

    int friendship(int p, int q) {
        return friend.getOrDefault(List.of(p, q), 0);
    }

    int sight(int p, int q) {
        return sees.getOrDefault(List.of(p, q), 0);
    }

    int found(int h) {
        long parts = 10000000;
        for (int q = 0; q < persons.size(); q++) {
            parts = parts * (10 - sight(q, h)) / 10;
        }
        return (int) (10000000 - parts);
    }

    // ---- book

    int book(String text) {
        open(text, 700);
        int many = 0;
        List<int[]> told = new ArrayList<>();
        int year = 0;
        while (!is("END")) {
            int[] line = bookLine(many, year);
            year = line[0] == 0 ? line[1] : year;
            take(";");
            told.add(line);
            many++;
        }
        judge(told);
        return many;
    }

    private int[] bookLine(int many, int year) {
        int first = is("year") ? -1 : told(persons);
        if (many == 60) {
            if (first >= 0) {
                at--;
            }
            throw fault(4);
        }
        if (first < 0) {
            at++;
            return new int[] {0, number(many == 0 ? 0 : year + 1, 99)};
        }
        String verb = here().text;
        if (!List.of("helps", "thanks", "leaves").contains(verb)) {
            throw fault(1);
        }
        at++;
        int second = told(persons);
        if (second == first) {
            at--;
            throw fault(3);
        }
        int k = told(helps);
        int hidden = 0;
        if (verb.equals("helps") && is("hidden")) {
            hidden = 1;
            at++;
        }
        return new int[] {verb.equals("helps") ? 1 : verb.equals("thanks") ? 2 : 3, first, second, k, hidden};
    }

    private void judge(List<int[]> told) {
        wrongs.clear();
        bonds.clear();
        everBound.clear();
        astray = 0;
        gained = new int[8];
        helped = new int[8];
        broken = new int[8];
        Map<Integer, Integer> done = new HashMap<>();
        int year = 0;
        for (int[] line : told) {
            if (line[0] == 0) {
                for (; year < line[1]; year++) {
                    close(year, done);
                    done.clear();
                }
                wrongs.add(0);
            } else if (line[0] == 1) {
                wrongs.add(helpLine(line, done));
            } else if (line[0] == 2) {
                wrongs.add(thanksLine(line, done, year));
            } else {
                wrongs.add(leaveLine(line, year));
            }
        }
        close(year, done);
        lastYear = year;
    }

    private void close(int year, Map<Integer, Integer> done) {
        bonds.forEach((bond, years) -> {
            if (years.contains(year) && done.getOrDefault(bond.get(1), -1) != bond.get(0).intValue()) {
                broken[bond.get(0)]++;
            }
        });
    }

    private int helpLine(int[] line, Map<Integer, Integer> done) {
        int n = needs.indexOf(List.of(line[2], line[3]));
        if (!can(line[1], line[3])) {
            return 1;
        }
        if (n < 0) {
            return 2;
        }
        if (done.containsKey(n)) {
            return 3;
        }
        done.put(n, line[1]);
        helped[line[1]]++;
        gained[line[1]] -= pain(line[1], n) + line[4] * hide(n);
        gained[line[2]] += worth(n);
        return 0;
    }

    private int standing(int p, int year) {
        int many = 0;
        for (Map.Entry<List<Integer>, TreeSet<Integer>> bond : bonds.entrySet()) {
            many += bond.getKey().get(0) == p && !bond.getValue().isEmpty() && bond.getValue().last() >= year ? 1 : 0;
        }
        return many;
    }

    private static TreeSet<Integer> span(int from, int many) {
        TreeSet<Integer> years = new TreeSet<>();
        for (int i = 0; i < many; i++) {
            years.add(from + i);
        }
        return years;
    }

    /** Binds p to need n from the next year on, in this one as before; false, and nothing, if that is above the limit. */
    private boolean bind(int p, int n, int year) {
        List<Integer> bond = List.of(p, n);
        TreeSet<Integer> before = bonds.get(bond);
        boolean dueNow = before != null && before.contains(year);
        bonds.put(bond, dueNow ? span(year, binds() + 1) : span(year + 1, binds()));
        if (standing(p, year) <= limits.get(p)) {
            everBound.add(p);
            return true;
        }
        if (before == null) {
            bonds.remove(bond);
        } else {
            bonds.put(bond, before);
        }
        return false;
    }

    private int thanksLine(int[] line, Map<Integer, Integer> done, int year) {
        int n = needs.indexOf(List.of(line[1], line[3]));
        if (!done.containsKey(n)) {
            return 4;
        }
        if (!can(line[2], line[3])) {
            return 5;
        }
        if (!bind(line[2], n, year)) {
            return 7;
        }
        astray += done.get(n) == line[2] ? 0 : 1;
        return 0;
    }

    private int leaveLine(int[] line, int year) {
        List<Integer> bond = List.of(line[1], needs.indexOf(List.of(line[2], line[3])));
        if (!bonds.containsKey(bond) || bonds.get(bond).last() < year) {
            return 6;
        }
        bonds.remove(bond);
        gained[line[1]] -= out();
        return 0;
    }

    int yearsBehind(int p, int n) {
        return bonds.containsKey(List.of(p, n)) ? bonds.get(List.of(p, n)).tailSet(lastYear + 1).size() : 0;
    }

    int came(int p, int what) {
        int felt = gained[p];
        int atEnd = 0;
        for (int q = 0; q < persons.size(); q++) {
            felt += friendship(p, q) * gained[q] / 10;
        }
        for (int n = 0; n < needs.size(); n++) {
            atEnd += yearsBehind(p, n) > 0 ? 1 : 0;
        }
        return new int[] {gained[p], felt, helped[p], atEnd, broken[p]}[what];
    }

    // ---- best

    private final Map<List<Integer>, BigInteger> memo = new HashMap<>();

    BigInteger best(int h, int n, int t, int b, int law) {
        if (t == 0) {
            return BigInteger.ZERO;
        }
        List<Integer> key = List.of(h, n, t, b, law);
        if (!memo.containsKey(key)) {
            BigInteger greatest = null;
            for (BigInteger one : options(h, n, t, b, law)) {
                greatest = greatest == null ? one : greatest.max(one);
            }
            memo.put(key, greatest);
        }
        return memo.get(key);
    }

    /** In the order in which the first of like ones is taken. */
    private List<BigInteger> options(int h, int n, int t, int b, int law) {
        BigInteger million = BigInteger.valueOf(1000000);
        BigInteger all = BigInteger.valueOf(10000000);
        BigInteger found = BigInteger.valueOf(found(h));
        BigInteger day = BigInteger.valueOf(100000L * friendship(h, needs.get(n).get(0)) * worth(n))
            .subtract(million.multiply(BigInteger.valueOf(pain(h, n))));
        BigInteger night = day.subtract(million.multiply(BigInteger.valueOf(hide(n))));
        BigInteger none = best(h, n, t - 1, 0, law);
        if (b > 0) {
            return List.of(day.add(best(h, n, t - 1, b - 1, law)),
                none.subtract(million.multiply(BigInteger.valueOf(out()))));
        }
        BigInteger thanked = law == 0 ? best(h, n, t - 1, binds(), law)
            : law == 1 ? none : none.add(million.multiply(BigInteger.valueOf(gift())));
        return List.of(none,
            night.add(thanked.multiply(found).divide(all)).add(none.multiply(all.subtract(found)).divide(all)),
            day.add(thanked));
    }

    int does(int h, int n, int t, int b, int law) {
        if (t == 0) {
            return 0;
        }
        int which = options(h, n, t, b, law).indexOf(best(h, n, t, b, law));
        return b > 0 ? which + 2 : which;
    }

    int willing(int n, int t, int law) {
        int many = 0;
        for (int h = 0; h < persons.size(); h++) {
            many += helper(h, n) && does(h, n, t, 0, law) != 0 ? 1 : 0;
        }
        return many;
    }

    // ---- run

    int run(int years, int newSeed) {
        bonds.clear();
        ran = new int[8];
        ranOf = new int[8];
        ran[5] = -1;
        seed = newSeed;
        for (int year = 0; year < years; year++) {
            for (int n = 0; n < needs.size(); n++) {
                meet(year, n, Math.min(20, years - year));
            }
        }
        return ran[0] + ran[1];
    }

    private void meet(int year, int n, int t) {
        for (int h = 0; h < persons.size(); h++) {
            if (bonds.getOrDefault(List.of(h, n), new TreeSet<>()).contains(year)) {
                ran[0]++;
                ranOf[h]++;
                ran[7] += worth(n) - pain(h, n);
                return;
            }
        }
        for (int h = 0; h < persons.size(); h++) {
            if (helper(h, n)) {
                int act = List.of(0, 2, 1, does(h, n, t, 0, 0), mate(h, n) < 0 ? 0 : 1).get(helping[h]);
                if (act != 0) {
                    free(year, n, t, h, act);
                    return;
                }
            }
        }
        ran[6]++;
    }

    private int mate(int h, int n) {
        for (int q = h + 1; q < persons.size(); q++) {
            if (helper(q, n) && helping[q] == 4) {
                return q;
            }
        }
        return -1;
    }

    private void free(int year, int n, int t, int h, int act) {
        List<Integer> who = helping[h] == 4 ? List.of(h, mate(h, n)) : List.of(h);
        ran[act == 2 ? 0 : 1]++;
        ran[7] += worth(n);
        for (int one : who) {
            ranOf[one]++;
            double share = 1.0 / who.size();
            ran[7] -= (int) Math.ceil(pain(one, n) * share);
            ran[7] -= act == 2 ? 0 : (int) Math.ceil(hide(n) * share);
        }
        boolean known = true;
        if (act == 1) {
            for (int one : who) {
                known &= drawFor(one);
            }
            ran[2] += known ? 1 : 0;
        }
        if (known) {
            thank(year, n, t, who);
        }
    }

    private boolean drawFor(int one) {
        int seers = 0;
        for (int q = 0; q < persons.size(); q++) {
            if (sees.containsKey(List.of(q, one))) {
                seed = (int) (seed * 1103515245L + 12345L);
                long draw = (seed & 0xffffffffL) / 256 % 10;
                seers += draw < sight(q, one) ? 1 : 0;
            }
        }
        return seers > 0;
    }

    private void thank(int year, int n, int t, List<Integer> who) {
        int way = thanking[needs.get(n).get(0)];
        int to = who.get(0);
        if (way == 0 || way == 2 && does(to, n, t, 0, 1) != 0) {
            return;
        }
        for (int q = persons.size() - 1; way == 3 && q >= 0; q--) {
            to = q != who.get(0) && helper(q, n) ? q : to;
        }
        ran[3]++;
        ran[4] += who.contains(to) ? 0 : 1;
        if (!bind(to, n, year) && ran[5] < 0) {
            ran[5] = year;
        }
    }

    // ---- left

    private final Map<String, Integer> leftMemo = new HashMap<>();

    /** By whom each need is met, and behind them how many are. */
    List<Integer> left(int m) {
        leftMemo.clear();
        int[] load = new int[persons.size()];
        List<Integer> by = new ArrayList<>();
        int all = mostLeft(0, load, m);
        int met = 0;
        for (int n = 0; n < needs.size(); n++) {
            int taken = -1;
            for (int q = 0; q < persons.size() && taken < 0; q++) {
                if (helper(q, n) && load[q] < m) {
                    load[q]++;
                    if (met + 1 + mostLeft(n + 1, load, m) == all) {
                        taken = q;
                    } else {
                        load[q]--;
                    }
                }
            }
            met += taken < 0 ? 0 : 1;
            by.add(taken);
        }
        by.add(all);
        return by;
    }

    private int mostLeft(int n, int[] load, int m) {
        if (n == needs.size()) {
            return 0;
        }
        String key = n + java.util.Arrays.toString(load);
        Integer known = leftMemo.get(key);
        if (known != null) {
            return known;
        }
        int most = mostLeft(n + 1, load, m);
        for (int q = 0; q < persons.size(); q++) {
            if (helper(q, n) && load[q] < m) {
                load[q]++;
                most = Math.max(most, 1 + mostLeft(n + 1, load, m));
                load[q]--;
            }
        }
        leftMemo.put(key, most);
        return most;
    }

    // ---- left, of many

    /** As left, for villages in which not all ways can be tried: by the most needs met when some are settled. */
    List<Integer> leftOfMany(int m) {
        int[] by = new int[needs.size()];
        java.util.Arrays.fill(by, -2);
        int all = mostMet(by, m);
        for (int n = 0; n < by.length; n++) {
            int q = 0;
            for (by[n] = 0; q < persons.size() && !(helper(q, n) && mostMet(by, m) == all); q++) {
                by[n] = q + 1;
            }
            by[n] = q < persons.size() ? q : -1;
        }
        List<Integer> told = new ArrayList<>();
        for (int who : by) {
            told.add(who);
        }
        told.add(all);
        return told;
    }

    /** By whom needs are settled (-1 nobody, -2 not yet), the most that are met; each person counts m times. */
    private int mostMet(int[] by, int m) {
        int[] slots = new int[persons.size() * m];
        java.util.Arrays.fill(slots, -1);
        int met = 0;
        for (int n = 0; n < by.length; n++) {
            met += by[n] != -1 && seat(n, by, slots, new boolean[slots.length]) ? 1 : 0;
        }
        for (int n = 0; n < by.length; n++) {
            int want = n;
            if (by[n] >= 0 && java.util.Arrays.stream(slots).noneMatch(s -> s == want)) {
                return -1;
            }
        }
        return met;
    }

    private boolean seat(int n, int[] by, int[] slots, boolean[] seen) {
        for (int s = slots.length - 1; s >= 0; s--) {
            int q = s % persons.size();
            if (!seen[s] && helper(q, n) && (by[n] < 0 || by[n] == q)) {
                seen[s] = true;
                if (slots[s] < 0 || seat(slots[s], by, slots, seen)) {
                    slots[s] = n;
                    return true;
                }
            }
        }
        return false;
    }

    // ---- think

    int[] think(int p, int k, int outside, int home) {
        int[] parts = new int[8];
        for (int q = 0; q < persons.size(); q++) {
            if (q != p && can(q, k) && (home & 1 << q) == 0) {
                parts[q] = (1 + friendship(q, p)) * ((outside & 1 << q) != 0 ? 3 : 1);
            }
        }
        return parts;
    }

    // ---- sentence

    int sentence(String text) {
        open(text, 200);
        ones = 0;
        Of whole = cond(1);
        take("END");
        sentence = whole;
        return ones;
    }

    int said() {
        int bits = 0;
        for (int p = 0; p < persons.size(); p++) {
            bits += sentence.person(p) ? 1 << p : 0;
        }
        return bits;
    }

    private Of cond(int depth) {
        Of first = all(depth);
        while (is("or")) {
            at++;
            Of one = first;
            Of other = all(depth);
            first = p -> one.person(p) || other.person(p);
        }
        return first;
    }

    private Of all(int depth) {
        Of first = one(depth);
        while (is("and")) {
            at++;
            Of one = first;
            Of other = one(depth);
            first = p -> one.person(p) && other.person(p);
        }
        return first;
    }

    private Of one(int depth) {
        String word = here().text;
        int what = List.of("gained", "felt", "helped", "bonds", "broken").indexOf(word);
        if (what < 0 && !List.of("not", "(", "bound", "free").contains(word)) {
            throw fault(1);
        }
        if (ones == 20 || depth == 9) {
            throw fault(4);
        }
        ones++;
        at++;
        if (word.equals("not")) {
            Of inner = one(depth + 1);
            return p -> !inner.person(p);
        }
        if (word.equals("(")) {
            Of inner = cond(depth + 1);
            take(")");
            return inner;
        }
        if (what < 0) {
            return word.equals("bound") ? p -> came(p, 3) > 0 : p -> !everBound.contains(p);
        }
        String sign = here().text;
        if (!List.of("<", "=", ">").contains(sign)) {
            throw fault(1);
        }
        at++;
        int number = number(0, 999);
        return p -> sign.equals("<") ? came(p, what) < number
            : sign.equals("=") ? came(p, what) == number : came(p, what) > number;
    }
}
