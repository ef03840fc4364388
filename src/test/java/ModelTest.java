import java.util.ArrayList;
import java.util.List;
import java.util.Random;

/** All promises but the first three: random villages, books, sentences and runs against the plain model. */
final class ModelTest {
    private static final String[] SCRAPS = {"help", "person", "can", "needs", "friend", "sees", "binds", "out", "gift",
        "year", "helps", "hidden", "thanks", "leaves", "or", "and", "not", "bound", "free", "gained", "felt", "helped",
        "bonds", "broken", ";", ";", "<", "=", ">", "(", ")", ".", "0", "1", "10", "100", "1000", "ha", "pa", "pb",
        "zz", "abcdefg", "a1", "A", "\t"};

    private final Random dice;
    private Plain plain;
    private NightHelp x;
    private String villageText;
    private String bookText;

    private ModelTest(long seed) {
        dice = new Random(seed);
    }

    public static void main(String[] args) {
        for (long seed = 1; seed <= 1500 && Due.allWell(); seed++) {
            new ModelTest(seed).compare(seed);
            new ModelTest(-seed).compareLeftOfMany();
            if (!Due.allWell()) {
                System.out.println("with seed " + seed);
            }
        }
        Due.finish();
    }

    private int upTo(int most) {
        return dice.nextInt(most + 1);
    }

    private boolean chance(int ofTen) {
        return dice.nextInt(10) < ofTen;
    }

    private static String name(char sort, int i) {
        return "" + sort + (char) ('a' + i);
    }

    // ---- texts

    private String villageText(boolean large) {
        int helps = 1 + upTo(large ? 5 : 2);
        int persons = 1 + upTo(large ? 7 : 4);
        int skill = 1 + upTo(7);
        StringBuilder s = new StringBuilder();
        for (int k = 0; k < helps; k++) {
            s.append("help ").append(name('h', k)).append(' ').append(1 + upTo(98)).append(' ')
                .append(upTo(chance(5) ? 99 : 9)).append(';');
        }
        for (int p = 0; p < persons; p++) {
            s.append("person ").append(name('p', p)).append(' ').append(upTo(chance(3) ? 9 : 3));
            for (int k = helps - 1; k >= 0; k--) {
                s.append(chance(skill) ? " can " + name('h', k) + " " + (1 + upTo(chance(5) ? 98 : 20)) : "");
                s.append(chance(4) ? " needs " + name('h', (k + p) % helps) : "");
            }
            s.append(";\n");
        }
        for (int i = persons > 1 ? upTo(12) : 0; i > 0; i--) {
            int p = upTo(persons - 1);
            int q = (p + 1 + upTo(persons - 2)) % persons;
            String line = (chance(5) ? "friend " : "sees ") + name('p', p) + " " + name('p', q) + " ";
            if (s.indexOf(line) < 0) {
                s.append(line).append(1 + upTo(9)).append(';');
            }
        }
        for (int q = 1; large && chance(5) && q < persons; q++) {
            // seen by many, so that what is cut is told
            String line = "sees " + name('p', q) + " pa ";
            s.append(s.indexOf(line) < 0 && s.length() < 800 ? line + (1 + 2 * upTo(4)) + ";" : "");
        }
        s.append(chance(7) ? "binds " + (1 + upTo(8)) + ";" : "");
        s.append(chance(7) ? "out " + upTo(chance(5) ? 999 : 40) + ";" : "");
        s.append(chance(7) ? "gift " + upTo(99) + ";" : "");
        return s.toString();
    }

    private String bookText() {
        StringBuilder s = new StringBuilder();
        int persons = plain.persons.size();
        int year = 0;
        List<String> done = new ArrayList<>();
        for (int i = upTo(40); i > 0 && s.length() < 670; i--) {
            if (chance(2) && year < 95) {
                year += 1 + upTo(chance(3) ? 4 : 0);
                s.append("year ").append(year).append(';');
                if (chance(4)) {
                    done.clear();
                }
            } else if (persons > 1) {
                s.append(deed(done));
            }
        }
        return s.toString();
    }

    private String deed(List<String> done) {
        int p = upTo(plain.persons.size() - 1);
        int q = (p + 1 + upTo(plain.persons.size() - 2)) % plain.persons.size();
        int k = upTo(plain.helps.size() - 1);
        if (!plain.needs.isEmpty() && chance(8)) {
            List<Integer> need = plain.needs.get(upTo(plain.needs.size() - 1));
            q = need.get(0);
            k = need.get(1);
            for (int i = 0; i < 20 && (p == q || !plain.can(p, k)); i++) {
                p = upTo(plain.persons.size() - 1);
            }
            p = p == q ? (q + 1) % plain.persons.size() : p;
        }
        String whom = name('p', q) + " " + name('h', k);
        if (!done.isEmpty() && chance(6)) {
            whom = done.get(upTo(done.size() - 1));
            if (chance(3)) {
                String leaver = chance(7) ? whom.substring(6) : name('p', p);
                return leaver.equals(whom.substring(0, 2)) ? "" : leaver + " leaves " + whom.substring(0, 5) + ";";
            }
            String other = chance(6) ? whom.substring(6) : name('p', p);
            return other.equals(whom.substring(0, 2)) ? ""
                : whom.substring(0, 2) + " thanks " + other + whom.substring(2, 5) + ";";
        }
        done.add(whom + " " + name('p', p));
        return name('p', p) + " helps " + whom + (chance(3) ? " hidden;" : ";");
    }

    private String sentenceText(int depth) {
        StringBuilder s = new StringBuilder();
        int parts = 1 + upTo(2);
        for (int i = 0; i < parts; i++) {
            s.append(i == 0 ? "" : chance(5) ? " and " : " or ");
            if (chance(3) && depth > 0) {
                s.append("not ").append(chance(3) ? "not " : "");
            }
            if (chance(3) && depth > 0) {
                s.append('(').append(sentenceText(depth - 1)).append(')');
            } else {
                String[] plainOnes = {"bound", "free"};
                String[] figures = {"gained", "felt", "helped", "bonds", "broken"};
                s.append(chance(3) ? plainOnes[upTo(1)]
                    : figures[upTo(4)] + " " + "<=>".charAt(upTo(2)) + " " + upTo(chance(7) ? 3 : 60));
            }
        }
        return s.toString();
    }

    /** The text with something in it changed, so that it may have faults. */
    private String spoilt(String text) {
        String[] parts = text.replaceAll("([;()<=>])", " $1 ").trim().split("[ \\n]+");
        List<String> list = new ArrayList<>(List.of(parts));
        for (int i = upTo(2); i >= 0 && !list.isEmpty(); i--) {
            int at = upTo(list.size() - 1);
            switch (upTo(4)) {
                case 0 -> list.remove(at);
                case 1 -> list.add(at, SCRAPS[upTo(SCRAPS.length - 1)]);
                case 2 -> list.set(at, SCRAPS[upTo(SCRAPS.length - 1)]);
                case 3 -> list.set(at, list.get(upTo(list.size() - 1)));
                default -> list.add(at, list.get(upTo(list.size() - 1)));
            }
        }
        String whole = String.join(chance(9) ? " " : "\n", list);
        return chance(2) ? whole.substring(0, upTo(whole.length())) : whole;
    }

    // ---- comparing

    private void compare(long seed) {
        x = new NightHelp();
        villageText = "";
        plain = Plain.village("");
        for (int i = 0; i < 3; i++) {
            village(spoilt(villageText(chance(5))));
        }
        String text = villageText(chance(2));
        for (int i = 0; i < 50 && text.length() > 900; i++) {
            text = villageText(false);
        }
        village(text);
        x = fresh();
        compareVillage();
        compareBest();
        x = fresh();
        for (int i = 0; i < 3; i++) {
            book(spoilt(bookText()));
            book(bookText());
            compareBook();
            sentence(spoilt(sentenceText(3)));
            sentence(sentenceText(1 + upTo(2)));
        }
        x = fresh();
        compareRuns();
        x = fresh();
        compareLeft();
        compareThink();
    }

    /** Another object with the village: after 512 calls one may answer anything. */
    private NightHelp fresh() {
        return Due.of(villageText);
    }

    private static int clipped(String text) {
        return Math.min(text.length(), 940);
    }

    private void village(String told) {
        String text = told.substring(0, clipped(told));
        int lines = Due.village(x, text);
        try {
            Plain read = Plain.village(text);
            Due.same("village " + text, lines, read.lines);
            Due.same("fault of village " + text, x.fault(), 0);
            plain = read;
            villageText = text;
        } catch (Plain.Fault fault) {
            Due.same("village " + text, lines, -1 - fault.place);
            Due.same("fault of village " + text, x.fault(), fault.kind);
        }
    }

    private void book(String told) {
        String text = told.substring(0, clipped(told));
        int lines = Due.book(x, text);
        try {
            Due.same("book " + text, lines, plain.book(text));
            Due.same("fault of book " + text, x.fault(), 0);
            bookText = text;
        } catch (Plain.Fault fault) {
            Due.same("book " + text, lines, -1 - fault.place);
            Due.same("fault of book " + text, x.fault(), fault.kind);
        }
    }

    private void sentence(String text) {
        int ones = Due.sentence(x, text);
        try {
            Due.same("sentence " + text, ones, plain.sentence(text));
            Due.same("fault of sentence " + text, x.fault(), 0);
        } catch (Plain.Fault fault) {
            Due.same("sentence " + text, ones, -1 - fault.place);
            Due.same("fault of sentence " + text, x.fault(), fault.kind);
        }
        Due.same("said of " + text, x.said(), plain.sentence == null ? -1 : plain.said());
    }

    private void compareVillage() {
        int persons = plain.persons.size();
        Due.same("helps", x.count(0), plain.helps.size());
        Due.same("persons", x.count(1), persons);
        Due.same("needs", x.count(2), plain.needs.size());
        Due.same("binds", x.count(4), plain.binds());
        Due.same("out", x.count(5), plain.out());
        Due.same("gift", x.count(6), plain.gift());
        for (int k = 0; k < plain.helps.size(); k++) {
            Due.same("worth", x.help(k, 0), plain.helpNumbers.get(k)[0]);
            Due.same("hide", x.help(k, 1), plain.helpNumbers.get(k)[1]);
        }
        for (int n = 0; n < plain.needs.size(); n++) {
            Due.same("need's person", x.need(n, 0), plain.needs.get(n).get(0));
            Due.same("need's help", x.need(n, 1), plain.needs.get(n).get(1));
        }
        for (int p = 0; p < persons; p++) {
            int can = 0;
            int needs = 0;
            for (int k = 0; k < plain.helps.size(); k++) {
                can |= plain.can(p, k) ? 1 << k : 0;
                needs |= plain.needs.contains(List.of(p, k)) ? 1 << k : 0;
            }
            Due.same("limit", x.person(p, 0), plain.limits.get(p));
            Due.same("can", x.person(p, 1), can);
            Due.same("needs", x.person(p, 2), needs);
            Due.same("found", x.found(p), plain.found(p));
            for (int q = 0; q < persons; q++) {
                Due.same("friendship", x.tie(p, q, 0), plain.friendship(p, q));
                Due.same("sight", x.tie(p, q, 1), plain.sight(p, q));
                Due.same("pair", x.pair(p, q),
                    p == q ? -1 : (long) plain.found(p) * plain.found(q) / 10000000);
            }
        }
    }

    private void compareBest() {
        for (int n = 0; n < plain.needs.size(); n++) {
            x = n % 24 == 0 ? fresh() : x;
            int t = upTo(20);
            int law = upTo(2);
            int need = n;
            Due.same("willing " + n + " " + t + " " + law + " " + villageText, x.willing(n, t, law),
                plain.willing(n, t, law));
            for (int h = 0; h < plain.persons.size(); h++) {
                int who = h;
                int b = chance(5) ? 0 : upTo(plain.binds());
                String call = "(" + h + ", " + n + ", " + t + ", " + b + ", " + law + ") of " + villageText;
                if (plain.helper(h, n)) {
                    Due.same("best" + call, x.best(h, n, t, b, law), plain.best(h, n, t, b, law).longValueExact());
                    Due.same("does" + call, x.does(h, n, t, b, law), plain.does(h, n, t, b, law));
                } else {
                    Due.none("best" + call, () -> x.best(who, need, t, b, law));
                    Due.same("does" + call, x.does(h, n, t, b, law), -1);
                }
            }
        }
    }

    private void compareBook() {
        int persons = plain.persons.size();
        int[] sums = new int[5];
        NightHelp y = fresh();
        Due.book(y, bookText);
        for (int i = 0; i < plain.wrongs.size(); i++) {
            Due.same("wrong " + i, y.wrong(i), plain.wrongs.get(i));
            sums[0] += plain.wrongs.get(i) == 0 ? 0 : 1;
        }
        sums[1] = plain.astray;
        for (int p = 0; p < persons; p++) {
            for (int what = 0; what < 5; what++) {
                Due.same("came " + p + " " + what, y.came(p, what), plain.came(p, what));
            }
            sums[2] += plain.broken[p];
            sums[3] += plain.gained[p];
            sums[4] += plain.helped[p];
        }
        for (int what = 0; what < 5; what++) {
            Due.same("judge " + what, y.judge(what), sums[what]);
        }
        Due.same("lines", y.count(3), plain.wrongs.size());
        compareBonds();
    }

    private void compareBonds() {
        NightHelp y = fresh();
        Due.book(y, bookText);
        for (int p = 0; p < plain.persons.size(); p++) {
            for (int q = 0; q < plain.persons.size(); q++) {
                for (int k = 0; k < plain.helps.size(); k++) {
                    Due.same("bound " + p + " " + q + " " + k, y.bound(p, q, k),
                        plain.yearsBehind(p, plain.needs.indexOf(List.of(q, k))));
                }
            }
        }
    }

    private void compareRuns() {
        int persons = plain.persons.size();
        for (int i = 0; i < 4; i++) {
            StringBuilder ways = new StringBuilder();
            boolean pairs = chance(4);
            for (int p = 0; p < persons; p++) {
                plain.helping[p] = pairs && chance(7) ? 4 : upTo(4);
                plain.thanking[p] = upTo(3);
                ways.append(plain.helping[p]).append(plain.thanking[p]).append(' ');
                Due.same("ways", x.ways(p, plain.helping[p], plain.thanking[p]), true);
                Due.same("helping", x.person(p, 3), plain.helping[p]);
                Due.same("thanking", x.person(p, 4), plain.thanking[p]);
            }
            int years = 1 + upTo(chance(7) ? 12 : 59);
            int seed = dice.nextInt();
            String call = "run(" + years + ", " + seed + ") by " + ways + "in " + villageText;
            Due.same(call, x.run(years, seed), plain.run(years, seed));
            for (int what = 0; what < 8; what++) {
                Due.same("runBy(" + what + ") " + call, x.runBy(what), plain.ran[what]);
            }
            for (int p = 0; p < persons; p++) {
                Due.same("runOf(" + p + ") " + call, x.runOf(p), plain.ranOf[p]);
            }
        }
    }

    private void compareLeft() {
        for (int m = 0; m < 5; m++) {
            List<Integer> by = plain.leftOfMany(m);
            if (plain.persons.size() <= 5 && plain.needs.size() <= 14) {
                Due.same("the model's left " + m + " " + villageText, plain.left(m).equals(by), true);
            }
            Due.same("left " + m + " " + villageText, x.left(m), by.get(plain.needs.size()));
            for (int n = 0; n < plain.needs.size(); n++) {
                Due.same("leftBy " + n + " of " + m + " " + villageText, x.leftBy(n), by.get(n));
            }
        }
    }

    /** A village in which many need and some can, as far as 900 bytes go, for who is left alone. */
    private void compareLeftOfMany() {
        int helps = 2 + upTo(4);
        int persons = 3 + upTo(5);
        int can = 1 + upTo(5);
        int need = 2 + upTo(6);
        StringBuilder s = new StringBuilder();
        for (int k = 0; k < helps; k++) {
            s.append("help ").append(name('h', k)).append(" 1 1;");
        }
        for (int p = 0; p < persons; p++) {
            s.append("person ").append(name('p', p)).append(" 1");
            for (int k = 0; k < helps && s.length() < 850; k++) {
                s.append(chance(can) ? " can " + name('h', k) + " 1" : "");
                s.append(chance(need) ? " needs " + name('h', k) : "");
            }
            s.append(';');
        }
        x = new NightHelp();
        village(s.toString());
        compareLeft();
    }

    private void compareThink() {
        for (int i = 0; i < 6; i++) {
            int p = upTo(plain.persons.size() - 1);
            int k = upTo(plain.helps.size() - 1);
            int outside = dice.nextInt();
            int home = dice.nextInt() & dice.nextInt();
            int[] parts = plain.think(p, k, outside, home);
            int all = 0;
            int who = -1;
            for (int q = 0; q < 8; q++) {
                all += parts[q];
                who = parts[q] > (who < 0 ? 0 : parts[who]) ? q : who;
            }
            Due.same("think", x.think(p, k, outside, home), who);
            for (int q = 0; who >= 0 && q < plain.persons.size(); q++) {
                Due.same("thinkOf", x.thinkOf(q, 0), parts[q]);
                Due.same("thinkOf all", x.thinkOf(q, 1), all);
            }
        }
    }
}
