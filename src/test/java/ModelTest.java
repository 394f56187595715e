import java.util.ArrayList;
import java.util.List;

/**
 * The program against a second one that is written straight from the document's terms, with lists and
 * recursion: on all short patterns, and on many runs of calls that are the same every time.
 */
public final class ModelTest {
    private static final int MOST_CALLS = 512;
    private static final int RUNS = 4000;
    private static final int MOST_REPORTS = 20;

    private static int wrong = 0;

    private static final class Rule {
        final List<List<Integer>> parts;
        final boolean negated;
        final boolean anchored;
        final boolean foldersOnly;

        Rule(List<List<Integer>> parts, int marks) {
            this.parts = parts;
            this.negated = (marks & 1) != 0;
            this.anchored = (marks & 2) != 0;
            this.foldersOnly = (marks & 4) != 0;
        }

        boolean matches(List<List<Integer>> names, boolean folder) {
            if (foldersOnly && !folder) {
                return false;
            }
            if (anchored || parts.size() > 1) {
                return listFits(parts, names);
            }
            return isTwoStars(parts.get(0)) || partFits(parts.get(0), names.get(names.size() - 1));
        }
    }

    private static final class Model {
        final List<Integer> buffer = new ArrayList<>();
        final List<Rule> ruleList = new ArrayList<>();
        final List<List<Integer>> names = new ArrayList<>();

        Model() {
            names.add(new ArrayList<>());
        }

        int pattern(int c) {
            if (c < 1 || c > 10) {
                return -1;
            }
            if (buffer.size() == 10) {
                return -2;
            }
            buffer.add(c);
            return buffer.size();
        }

        int rule(int marks) {
            List<List<Integer>> parts = cut(buffer);
            buffer.clear();
            for (List<Integer> part : parts) {
                if (part.isEmpty() || part.contains(10) && part.size() > 1) {
                    return -3;
                }
            }
            if (ruleList.size() == 12) {
                return -2;
            }
            ruleList.add(new Rule(parts, marks));
            return ruleList.size() - 1;
        }

        int dropRule() {
            if (ruleList.isEmpty()) {
                return -5;
            }
            ruleList.remove(ruleList.size() - 1);
            return ruleList.size();
        }

        List<Integer> lastName() {
            return names.get(names.size() - 1);
        }

        int path(int c) {
            if ((c < 1 || c > 6) && c != 9) {
                return -1;
            }
            if (c == 9 && (lastName().isEmpty() || names.size() == 6)) {
                return -4;
            }
            if (c != 9 && lastName().size() == 8) {
                return -2;
            }
            if (c == 9) {
                names.add(new ArrayList<>());
            } else {
                lastName().add(c);
            }
            return names.size();
        }

        void clearPath() {
            names.clear();
            names.add(new ArrayList<>());
        }

        int lastMatch(List<List<Integer>> list, boolean folder) {
            int last = -5;
            for (int r = 0; r < ruleList.size(); r++) {
                if (ruleList.get(r).matches(list, folder)) {
                    last = r;
                }
            }
            return last;
        }

        int lastMatch(boolean folder) {
            return lastName().isEmpty() ? -5 : lastMatch(names, folder);
        }

        int matches(boolean folder) {
            int count = 0;
            for (Rule rule : ruleList) {
                count += !lastName().isEmpty() && rule.matches(names, folder) ? 1 : 0;
            }
            return count;
        }

        int cutAt(boolean folder) {
            if (lastName().isEmpty()) {
                return -5;
            }
            for (int n = 1; n <= names.size(); n++) {
                int last = lastMatch(names.subList(0, n), n == names.size() ? folder : true);
                if (last >= 0 && !ruleList.get(last).negated) {
                    return n;
                }
            }
            return -5;
        }
    }

    private static List<List<Integer>> cut(List<Integer> pattern) {
        List<List<Integer>> parts = new ArrayList<>();
        parts.add(new ArrayList<>());
        for (int c : pattern) {
            if (c == 9) {
                parts.add(new ArrayList<>());
            } else {
                parts.get(parts.size() - 1).add(c);
            }
        }
        return parts;
    }

    private static boolean isTwoStars(List<Integer> part) {
        return part.get(0) == 10;
    }

    private static <T> List<T> behindFirst(List<T> list) {
        return list.subList(1, list.size());
    }

    private static boolean partFits(List<Integer> part, List<Integer> name) {
        if (part.isEmpty()) {
            return name.isEmpty();
        }
        int c = part.get(0);
        if (c == 7) {
            return partFits(behindFirst(part), name) || !name.isEmpty() && partFits(part, behindFirst(name));
        }
        return !name.isEmpty() && (c == 8 || name.get(0) == c) && partFits(behindFirst(part), behindFirst(name));
    }

    private static boolean listFits(List<List<Integer>> parts, List<List<Integer>> names) {
        if (parts.isEmpty()) {
            return names.isEmpty();
        }
        if (isTwoStars(parts.get(0))) {
            return listFits(behindFirst(parts), names) || !names.isEmpty() && listFits(parts, behindFirst(names));
        }
        return !names.isEmpty() && partFits(parts.get(0), names.get(0)) && listFits(behindFirst(parts), behindFirst(names));
    }

    private static int bit(boolean b) {
        return b ? 1 : 0;
    }

    private static void due(String run, String call, int got, int want) {
        if (got != want) {
            wrong++;
            if (wrong <= MOST_REPORTS) {
                System.out.println(run + ": " + call + " answered " + got + ", due is " + want);
            }
        }
    }

    private static void ask(String run, IgnoreRules x, Model m) {
        for (boolean folder : new boolean[] {false, true}) {
            due(run, "ignored(" + folder + ")", bit(x.ignored(folder)), bit(m.cutAt(folder) > 0));
            due(run, "lastMatch(" + folder + ")", x.lastMatch(folder), m.lastMatch(folder));
            due(run, "matches(" + folder + ")", x.matches(folder), m.matches(folder));
            due(run, "cutAt(" + folder + ")", x.cutAt(folder), m.cutAt(folder));
        }
        due(run, "rules()", x.rules(), m.ruleList.size());
    }

    /** Every pattern of up to five of these characters, on every path of up to five of these letters and slashes. */
    private static void shortPatterns() {
        int[] chars = {1, 2, 7, 8, 9, 10};
        List<List<Integer>> patterns = listsOf(chars, 5);
        List<List<Integer>> paths = listsOf(new int[] {1, 2, 9}, 5);
        for (List<Integer> pattern : patterns) {
            for (int marks = 0; marks <= 2; marks += 2) {
                shortPattern(pattern, marks, paths);
            }
        }
    }

    private static void shortPattern(List<Integer> pattern, int marks, List<List<Integer>> paths) {
        Model m = new Model();
        m.buffer.addAll(pattern);
        int number = m.rule(marks);
        IgnoreRules x = null;
        int calls = MOST_CALLS;
        for (List<Integer> path : paths) {
            // A new object before the old one has had its calls.
            if (calls > MOST_CALLS - 20) {
                x = new IgnoreRules();
                for (int c : pattern) {
                    x.pattern(c);
                }
                due("pattern " + pattern, "rule(" + marks + ")", x.rule(marks), number);
                calls = pattern.size() + 1;
            }
            if (number < 0) {
                return;
            }
            String run = "pattern " + pattern + ", marks " + marks + ", path " + path;
            x.clearPath();
            m.clearPath();
            for (int c : path) {
                due(run, "path(" + c + ")", x.path(c), m.path(c));
            }
            due(run, "matches", x.matches(false), m.matches(false));
            due(run, "cutAt", x.cutAt(false), m.cutAt(false));
            calls += path.size() + 3;
        }
    }

    private static List<List<Integer>> listsOf(int[] chars, int longest) {
        List<List<Integer>> lists = new ArrayList<>();
        lists.add(new ArrayList<>());
        int from = 0;
        for (int length = 1; length <= longest; length++) {
            int to = lists.size();
            for (int i = from; i < to; i++) {
                for (int c : chars) {
                    List<Integer> longer = new ArrayList<>(lists.get(i));
                    longer.add(c);
                    lists.add(longer);
                }
            }
            from = to;
        }
        return lists;
    }

    /** Numbers that look unordered but are the same every time. */
    private static final class Numbers {
        private long state;

        Numbers(int seed) {
            state = seed * 7919L + 17;
        }

        int below(int bound) {
            state = state * 6364136223846793005L + 1442695040888963407L;
            return (int) ((state >>> 33) % bound);
        }
    }

    private static int someChar(Numbers numbers) {
        // Few letters, so that patterns match often; at times any character, also a wrong one.
        int[] often = {1, 2, 7, 8, 9, 9, 10};
        return numbers.below(6) == 0 ? numbers.below(14) - 1 : often[numbers.below(often.length)];
    }

    private static int somePathChar(Numbers numbers) {
        int[] often = {1, 1, 2, 2, 9};
        return numbers.below(12) == 0 ? numbers.below(14) - 1 : often[numbers.below(often.length)];
    }

    private static void longRun(int seed) {
        Numbers numbers = new Numbers(seed);
        IgnoreRules x = new IgnoreRules();
        Model m = new Model();
        int calls = 0;
        int dropChance = seed % 3 == 0 ? 1 : 6;
        int clearChance = 1 + seed % 8;
        while (calls < MOST_CALLS - 60) {
            String run = "run " + seed + ", call " + calls;
            int kind = numbers.below(40);
            if (kind < 8) {
                calls += addGoodRule(run, numbers, x, m);
            } else if (kind < 12) {
                calls += typeSome(run, numbers, x, m);
            } else if (kind < 12 + dropChance) {
                due(run, "dropRule()", x.dropRule(), m.dropRule());
                calls++;
            } else if (kind < 18 + clearChance) {
                x.clearPath();
                m.clearPath();
                calls++;
            } else {
                calls += walkAndAsk(run, numbers, x, m);
            }
        }
        ask("run " + seed + ", end", x, m);
    }

    private static int typeSome(String run, Numbers numbers, IgnoreRules x, Model m) {
        int count = numbers.below(13);
        for (int i = 0; i < count; i++) {
            int c = someChar(numbers);
            due(run, "pattern(" + c + ")", x.pattern(c), m.pattern(c));
        }
        int marks = numbers.below(64) - 32;
        due(run, "rule(" + marks + ")", x.rule(marks), m.rule(marks));
        return count + 1;
    }

    private static int addGoodRule(String run, Numbers numbers, IgnoreRules x, Model m) {
        int[] within = {1, 2, 7, 7, 8};
        int calls = 1;
        int parts = 1 + numbers.below(4);
        for (int p = 0; p < parts; p++) {
            List<Integer> part = new ArrayList<>();
            if (p > 0) {
                part.add(9);
            }
            if (numbers.below(3) == 0) {
                part.add(10);
            } else {
                int length = 1 + numbers.below(parts == 1 ? 10 : 3);
                for (int i = 0; i < length; i++) {
                    part.add(within[numbers.below(within.length)]);
                }
            }
            for (int c : part) {
                due(run, "pattern(" + c + ")", x.pattern(c), m.pattern(c));
                calls++;
            }
        }
        int marks = numbers.below(8);
        due(run, "rule(" + marks + ")", x.rule(marks), m.rule(marks));
        return calls;
    }

    private static int walkAndAsk(String run, Numbers numbers, IgnoreRules x, Model m) {
        int count = numbers.below(12);
        for (int i = 0; i < count; i++) {
            int c = somePathChar(numbers);
            due(run, "path(" + c + ")", x.path(c), m.path(c));
        }
        ask(run, x, m);
        return count + 9;
    }

    public static void main(String[] args) {
        shortPatterns();
        for (int seed = 0; seed < RUNS; seed++) {
            longRun(seed);
        }
        System.out.println(wrong == 0 ? "all answers are as the model's" : wrong + " answers are not as the model's");
        if (wrong != 0) {
            System.exit(1);
        }
    }
}
