/**
 * Each promise of the document, with its edges and wrong inputs.
 *
 * Patterns and paths are written as text: a to f are the letters 1 to 6, '*' is STAR, '?' is QUERY,
 * '/' is SLASH and '#' is TWO STARS.
 */
public final class PromiseTest {
    private static final int NEGATED = 1;
    private static final int ANCHORED = 2;
    private static final int FOLDERS_ONLY = 4;
    private static final boolean FILE = false;
    private static final boolean FOLDER = true;

    private static int wrong = 0;

    private static void due(String what, long got, long want) {
        if (got != want) {
            wrong++;
            System.out.println(what + " answered " + got + ", due is " + want);
        }
    }

    private static void due(String what, boolean got, boolean want) {
        due(what, got ? 1 : 0, want ? 1 : 0);
    }

    private static int code(char c) {
        return "abcdef*?/#".indexOf(c) + 1;
    }

    private static void type(IgnoreRules x, String pattern) {
        for (int i = 0; i < pattern.length(); i++) {
            due("pattern of " + pattern + " at " + i, x.pattern(code(pattern.charAt(i))), i + 1);
        }
    }

    private static int add(IgnoreRules x, String pattern, int marks) {
        type(x, pattern);
        return x.rule(marks);
    }

    private static void walk(IgnoreRules x, String path) {
        x.clearPath();
        int names = 1;
        for (int i = 0; i < path.length(); i++) {
            names += path.charAt(i) == '/' ? 1 : 0;
            due("path of " + path + " at " + i, x.path(code(path.charAt(i))), names);
        }
    }

    private static IgnoreRules with(String pattern, int marks) {
        IgnoreRules x = new IgnoreRules();
        due("rule " + pattern, add(x, pattern, marks), 0);
        return x;
    }

    private static void dueMatch(String pattern, int marks, String path, boolean folder, boolean want) {
        IgnoreRules x = with(pattern, marks);
        walk(x, path);
        String what = pattern + " with marks " + marks + " on " + path + (folder ? ", a folder" : ", a file");
        due("matches: " + what, x.matches(folder), want ? 1 : 0);
        due("lastMatch: " + what, x.lastMatch(folder), want ? 0 : IgnoreRules.NONE);
    }

    /** For a rule that is neither negated nor minds what a path is. */
    private static void fits(String pattern, int marks, String path) {
        dueMatch(pattern, marks, path, FILE, true);
        dueMatch(pattern, marks, path, FOLDER, true);
    }

    private static void fitsNot(String pattern, int marks, String path) {
        dueMatch(pattern, marks, path, FILE, false);
        dueMatch(pattern, marks, path, FOLDER, false);
    }

    private static void dueCut(IgnoreRules x, String path, boolean folder, int want) {
        walk(x, path);
        due("cutAt of " + path, x.cutAt(folder), want);
        due("ignored of " + path, x.ignored(folder), want != IgnoreRules.NONE);
    }

    private static void dueNoPath(String what, IgnoreRules x) {
        for (boolean folder : new boolean[] {FILE, FOLDER}) {
            due("ignored, " + what, x.ignored(folder), false);
            due("lastMatch, " + what, x.lastMatch(folder), IgnoreRules.NONE);
            due("matches, " + what, x.matches(folder), 0);
            due("cutAt, " + what, x.cutAt(folder), IgnoreRules.NONE);
        }
    }

    private static void newObject() {
        due("rules of a new object", new IgnoreRules().rules(), 0);
        due("dropRule of a new object", new IgnoreRules().dropRule(), IgnoreRules.NONE);
        due("pattern of a new object", new IgnoreRules().pattern(1), 1);
        due("rule of a new object", new IgnoreRules().rule(0), IgnoreRules.BAD_RULE);
        due("path(1) of a new object", new IgnoreRules().path(1), 1);
        due("path(9) of a new object", new IgnoreRules().path(9), IgnoreRules.BAD_PATH);
        dueNoPath("new object", new IgnoreRules());

        IgnoreRules one = with("a", 0);
        walk(one, "a/b");
        type(one, "abc");
        IgnoreRules other = new IgnoreRules();
        due("rules beside another object", other.rules(), 0);
        due("pattern beside another object", other.pattern(1), 1);
        due("path beside another object", other.path(1), 1);
        due("matches beside another object", other.matches(FILE), 0);
    }

    private static void pattern() {
        IgnoreRules x = new IgnoreRules();
        int[] wrongChars = {0, -1, 11, 12, 100, Integer.MIN_VALUE, Integer.MAX_VALUE};
        for (int c = 1; c <= 10; c++) {
            for (int bad : wrongChars) {
                due("pattern(" + bad + ")", x.pattern(bad), IgnoreRules.BAD_CHAR);
            }
            due("pattern(" + c + ")", x.pattern(c), c);
        }
        for (int c = 1; c <= 10; c++) {
            due("pattern(" + c + ") in a full buffer", x.pattern(c), IgnoreRules.FULL);
        }

        IgnoreRules full = new IgnoreRules();
        type(full, "**abcdefab");
        due("pattern(3) in a full buffer", full.pattern(3), IgnoreRules.FULL);
        due("pattern(0) in a full buffer", full.pattern(0), IgnoreRules.BAD_CHAR);
        due("rule of ten", full.rule(0), 0);
        due("pattern behind the rule of ten", full.pattern(1), 1);
        walk(full, "abcdefab");
        due("matches of ten", full.matches(FILE), 1);
        walk(full, "abcdefac");
        due("matches of ten, last letter wrong", full.matches(FILE), 0);

        IgnoreRules skipping = new IgnoreRules();
        skipping.pattern(1);
        skipping.pattern(0);
        skipping.pattern(11);
        skipping.pattern(2);
        due("rule behind wrong characters", skipping.rule(0), 0);
        walk(skipping, "ab");
        due("matches behind wrong characters", skipping.matches(FILE), 1);
    }

    private static void goodRules() {
        String[] good = {"a", "f", "*", "?", "#", "a/b", "#/a", "a/#", "#/#", "a/#/b", "#/#/#", "**", "*?*", "a*/?b",
            "abcdefabcd", "a/b/c/d/e", "#/#/#/#/#", "a/#/#/b"};
        for (String pattern : good) {
            IgnoreRules x = new IgnoreRules();
            due("rule of " + pattern, add(x, pattern, 0), 0);
            due("rules behind " + pattern, x.rules(), 1);
            due("pattern behind " + pattern, x.pattern(1), 1);
        }
        String[] bad = {"", "/", "//", "/a", "a/", "a//b", "/#", "#/", "##", "a#", "#a", "*#", "#*", "?#", "#?", "a/#b",
            "a/b#", "#/a#", "#a/b", "a#/b", "a/##", "##/a", "a/b/c/d/", "abcdefabc/", "abcdefabc#", "/abcdefabc"};
        for (String pattern : bad) {
            IgnoreRules x = with("b", 0);
            walk(x, "b");
            due("rule of " + pattern, add(x, pattern, 0), IgnoreRules.BAD_RULE);
            due("rules behind " + pattern, x.rules(), 1);
            due("matches behind " + pattern, x.matches(FILE), 1);
            due("pattern behind " + pattern, x.pattern(1), 1);
            due("rule behind " + pattern, x.rule(0), 1);
        }
    }

    private static void fullRules() {
        IgnoreRules x = new IgnoreRules();
        for (int i = 0; i < 12; i++) {
            due("rule number", add(x, i == 11 ? "c" : "b", 0), i);
            due("rules", x.rules(), i + 1);
        }
        walk(x, "a");
        due("the thirteenth rule", add(x, "a", 0), IgnoreRules.FULL);
        due("rules behind the thirteenth", x.rules(), 12);
        due("matches behind the thirteenth", x.matches(FILE), 0);
        due("pattern behind the thirteenth", x.pattern(1), 1);
        due("pattern behind the thirteenth", x.pattern(9), 2);
        due("a bad rule behind twelve", x.rule(0), IgnoreRules.BAD_RULE);
        due("an empty rule behind twelve", x.rule(0), IgnoreRules.BAD_RULE);
        due("the path is kept", x.path(2), 1);
        walk(x, "c");
        due("the twelfth rule is kept", x.lastMatch(FILE), 11);
        due("the twelfth rule alone", x.matches(FILE), 1);
        walk(x, "b");
        due("the other rules are kept", x.matches(FILE), 11);
    }

    private static void marks() {
        int[] otherBits = {0, 8, 16, ~7, Integer.MIN_VALUE, 1 << 30};
        for (int other : otherBits) {
            IgnoreRules plain = with("b", other);
            dueCut(plain, "a/b", FILE, 2);
            IgnoreRules negated = with("b", 0);
            due("negated rule", add(negated, "b", NEGATED | other), 1);
            dueCut(negated, "a/b", FILE, IgnoreRules.NONE);
            due("lastMatch is the negated rule", negated.lastMatch(FILE), 1);
            fitsNot("b", ANCHORED | other, "a/b");
            fits("b", ANCHORED | other, "b");
            dueMatch("b", FOLDERS_ONLY | other, "a/b", FILE, false);
            dueMatch("b", FOLDERS_ONLY | other, "a/b", FOLDER, true);
        }
    }

    private static void dropRule() {
        IgnoreRules x = new IgnoreRules();
        due("dropRule without rules", x.dropRule(), IgnoreRules.NONE);
        due("rules", x.rules(), 0);
        add(x, "a", 0);
        add(x, "a", NEGATED);
        add(x, "b", 0);
        walk(x, "a");
        type(x, "c");
        due("dropRule of three", x.dropRule(), 2);
        due("the pattern is kept", x.pattern(1), 2);
        due("negated rule stands", x.ignored(FILE), false);
        due("dropRule of two", x.dropRule(), 1);
        due("negated rule is gone", x.ignored(FILE), true);
        due("matches of one", x.matches(FILE), 1);
        due("lastMatch of one", x.lastMatch(FILE), 0);
        due("dropRule of one", x.dropRule(), 0);
        due("matches of none", x.matches(FILE), 0);
        due("rules of none", x.rules(), 0);
        due("dropRule of none", x.dropRule(), IgnoreRules.NONE);
        due("rules of none", x.rules(), 0);
        due("the path is kept", x.path(9), 2);
    }

    private static void path() {
        IgnoreRules x = new IgnoreRules();
        int[] wrongChars = {0, -1, 7, 8, 10, 11, 100, Integer.MIN_VALUE, Integer.MAX_VALUE};
        for (int n = 1; n <= 6; n++) {
            due("path(9) on an empty name", x.path(9), IgnoreRules.BAD_PATH);
            for (int bad : wrongChars) {
                due("path(" + bad + ")", x.path(bad), IgnoreRules.BAD_CHAR);
            }
            for (int k = 0; k < 8; k++) {
                due("path of a letter", x.path(k % 6 + 1), n);
                due("path(8) within a name", x.path(8), IgnoreRules.BAD_CHAR);
            }
            due("path of a ninth letter", x.path(6), IgnoreRules.FULL);
            due("path(7) behind eight letters", x.path(7), IgnoreRules.BAD_CHAR);
            due("path(9)", x.path(9), n == 6 ? IgnoreRules.BAD_PATH : n + 1);
        }
        due("path of a ninth letter in the sixth name", x.path(1), IgnoreRules.FULL);
        due("path(0) in a full buffer", x.path(0), IgnoreRules.BAD_CHAR);
        due("path(10) in a full buffer", x.path(10), IgnoreRules.BAD_CHAR);
        add(x, "#/abcdefab", 0);
        due("refused calls changed nothing", x.matches(FILE), 1);
        add(x, "*b/*b/*/*b", 0);
        due("six names are not four", x.matches(FILE), 1);
        add(x, "*/*b/#/*b", 0);
        due("two names, any, one name", x.matches(FILE), 2);
        due("the first name is kept", add(x, "abcdefab", ANCHORED), 3);
        due("cutAt the first name", x.cutAt(FILE), 1);

        IgnoreRules six = new IgnoreRules();
        walk(six, "a/b/c/d/e/f");
        due("a seventh name", six.path(9), IgnoreRules.BAD_PATH);
        due("a letter behind the refused name", six.path(1), 6);
        add(six, "#/fa", 0);
        due("the refused name isn't there", six.matches(FILE), 1);
    }

    private static void clearPath() {
        IgnoreRules x = with("a", 0);
        type(x, "b");
        walk(x, "a/a/aaaaaaaa");
        x.clearPath();
        dueNoPath("behind clearPath", x);
        due("path(9) behind clearPath", x.path(9), IgnoreRules.BAD_PATH);
        due("rules behind clearPath", x.rules(), 1);
        due("pattern behind clearPath", x.pattern(1), 2);
        due("path(2) behind clearPath", x.path(2), 1);
        due("matches behind clearPath", x.matches(FILE), 0);
        due("path(9)", x.path(9), 2);
        dueNoPath("last name empty behind clearPath", x);
        due("path(1)", x.path(1), 2);
        due("matches behind clearPath", x.matches(FILE), 1);
        x.clearPath();
        x.clearPath();
        due("path(1) behind two clearPath", x.path(1), 1);
        due("matches behind two clearPath", x.matches(FILE), 1);
    }

    private static void noPath() {
        IgnoreRules x = with("#", 0);
        add(x, "#/#", 0);
        add(x, "*", 0);
        add(x, "#", ANCHORED);
        add(x, "a", 0);
        dueNoPath("empty buffer", x);
        due("path(1)", x.path(1), 1);
        due("ignored of a path", x.ignored(FILE), true);
        due("path(9)", x.path(9), 2);
        dueNoPath("last name empty", x);
    }

    private static void partsAndNames() {
        fits("abc", 0, "abc");
        fitsNot("abc", 0, "ab");
        fitsNot("abc", 0, "abcd");
        fitsNot("abc", 0, "abd");
        fits("*", 0, "a");
        fits("*", 0, "abcdefab");
        fits("a*", 0, "a");
        fits("*a", 0, "a");
        fits("**a**", 0, "a");
        fits("*a*b", 0, "cacabdb");
        fitsNot("*a*b", 0, "cacabdbc");
        fits("*ab", 0, "aab");
        fits("*ab*", 0, "aabb");
        fitsNot("*aa", 0, "a");
        fits("?", 0, "e");
        fitsNot("?", 0, "ee");
        fits("?*?", 0, "ab");
        fitsNot("?*?", 0, "a");
        fits("????????", 0, "abcdefab");
        fitsNot("?????????", 0, "abcdefab");
        fitsNot("abcdefabc", 0, "abcdefab");
        fits("*?", 0, "abcdefab");
        fits("a?c", 0, "abc");
        fitsNot("a?c", 0, "ac");
        for (int i = 0; i < 6; i++) {
            for (int k = 0; k < 6; k++) {
                String letter = "abcdef".substring(i, i + 1);
                String name = "abcdef".substring(k, k + 1);
                dueMatch(letter, 0, name, FILE, i == k);
            }
        }
    }

    private static void partsAndPaths() {
        fits("b", 0, "a/b");
        fitsNot("a", 0, "a/b");
        fitsNot("b", ANCHORED, "a/b");
        fits("*", 0, "a/b/c");
        fitsNot("*", ANCHORED, "a/b");
        fits("#", 0, "a/b/c/d/e/f");
        fits("#", 0, "abcdefab");
        fits("#", ANCHORED, "a");
        fits("#", ANCHORED, "a/b/c/d/e/f");
        fits("a/b", 0, "a/b");
        fitsNot("a/b", 0, "c/a/b");
        fitsNot("a/b", 0, "a/b/c");
        fitsNot("a/b", 0, "a");
        fitsNot("a/b", 0, "ab");
        fitsNot("a*b", 0, "a/b");
        fitsNot("a?b", 0, "a/b");
        fits("a/*/b", 0, "a/c/b");
        fitsNot("a/*/b", 0, "a/b");
        fitsNot("a/*/b", 0, "a/c/c/b");
        fits("a/#/b", 0, "a/b");
        fits("a/#/b", 0, "a/c/b");
        fits("a/#/b", 0, "a/b/b/c/d/b");
        fitsNot("a/#/b", 0, "a/b/c");
        fitsNot("a/#/b", 0, "c/a/b");
        fits("a/#", 0, "a");
        fits("a/#", 0, "a/b/c/d/e/f");
        fitsNot("a/#", 0, "b/a");
        fits("#/a", 0, "a");
        fits("#/a", 0, "b/c/d/e/f/a");
        fitsNot("#/a", 0, "a/b");
        fits("#/#", 0, "a");
        fits("#/#/#/#/#", 0, "a/b");
        fits("#/a/#", 0, "b/a/c");
        fits("#/a/#", 0, "a");
        fitsNot("#/a/#", 0, "b/aa/c");
        fits("#/a/#/b", 0, "c/a/a/b/b");
        fitsNot("#/a/#/b", 0, "c/b/a");
        fits("#/a/b", 0, "a/a/b");
        fits("*/*/*/*/*", 0, "a/b/c/d/e");
        fitsNot("*/*/*/*/*", 0, "a/b/c/d/e/f");
        fitsNot("*/*/*/*/*", 0, "a/b/c/d");
        fits("*/*/#/?/*", 0, "a/b/c/d");
        fitsNot("*/*/#/?/*", 0, "a/b/c");
        dueMatch("a/b", FOLDERS_ONLY, "a/b", FILE, false);
        dueMatch("a/b", FOLDERS_ONLY, "a/b", FOLDER, true);
        dueMatch("a/b", FOLDERS_ONLY | NEGATED, "a/b", FOLDER, true);
        dueMatch("#", FOLDERS_ONLY, "a", FILE, false);
        dueMatch("#", FOLDERS_ONLY, "a", FOLDER, true);
    }

    private static void ignoredAndCutAt() {
        IgnoreRules x = new IgnoreRules();
        dueCut(x, "a", FILE, IgnoreRules.NONE);
        add(x, "b", FOLDERS_ONLY);
        dueCut(x, "b", FILE, IgnoreRules.NONE);
        dueCut(x, "b", FOLDER, 1);
        dueCut(x, "b/c", FILE, 1);
        dueCut(x, "a/b", FILE, IgnoreRules.NONE);
        dueCut(x, "a/b", FOLDER, 2);
        dueCut(x, "a/c/b/b", FILE, 3);
        dueCut(x, "a/c/d/e/f/b", FILE, IgnoreRules.NONE);
        dueCut(x, "a/c/d/e/f/b", FOLDER, 6);
        dueCut(x, "a/c/d/e/b/b", FILE, 5);

        // What lies in an ignored folder stays ignored, whatever a later rule says of it.
        add(x, "b/c", NEGATED);
        dueCut(x, "b/c", FILE, 1);
        due("lastMatch of b/c", x.lastMatch(FILE), 1);
        due("matches of b/c", x.matches(FILE), 1);

        IgnoreRules back = with("*", 0);
        add(back, "a", NEGATED);
        add(back, "a/#/a", 0);
        dueCut(back, "a", FILE, IgnoreRules.NONE);
        dueCut(back, "a/b", FILE, 2);
        dueCut(back, "a/a", FILE, 2);
        dueCut(back, "b/a", FILE, 1);
        add(back, "#", NEGATED);
        dueCut(back, "a/b/a", FOLDER, IgnoreRules.NONE);
        due("lastMatch when all is taken back", back.lastMatch(FILE), 3);
        due("matches when all is taken back", back.matches(FILE), 4);
        add(back, "a/b/a", FOLDERS_ONLY);
        dueCut(back, "a/b/a", FOLDER, 3);
        dueCut(back, "a/b/a", FILE, IgnoreRules.NONE);

        IgnoreRules negatedOnly = with("a", NEGATED);
        dueCut(negatedOnly, "a", FILE, IgnoreRules.NONE);
        due("lastMatch of a negated rule", negatedOnly.lastMatch(FILE), 0);
        due("matches of a negated rule", negatedOnly.matches(FILE), 1);
    }

    private static void lastMatchAndMatches() {
        IgnoreRules x = new IgnoreRules();
        add(x, "a*", 0);
        add(x, "*b", NEGATED);
        add(x, "ab", ANCHORED);
        add(x, "c", 0);
        add(x, "?b", FOLDERS_ONLY);
        walk(x, "ab");
        due("lastMatch, a file", x.lastMatch(FILE), 2);
        due("matches, a file", x.matches(FILE), 3);
        due("lastMatch, a folder", x.lastMatch(FOLDER), 4);
        due("matches, a folder", x.matches(FOLDER), 4);
        walk(x, "c/ab");
        due("lastMatch of c/ab", x.lastMatch(FILE), 1);
        due("matches of c/ab", x.matches(FILE), 2);
        walk(x, "c/d");
        due("lastMatch looks at the whole path alone", x.lastMatch(FILE), IgnoreRules.NONE);
        due("matches looks at the whole path alone", x.matches(FILE), 0);
        due("ignored looks at the beginnings", x.ignored(FILE), true);
    }

    private static void questionsChangeNothing() {
        IgnoreRules x = with("a", 0);
        walk(x, "b/a");
        type(x, "c");
        for (int i = 0; i < 3; i++) {
            for (boolean folder : new boolean[] {FILE, FOLDER}) {
                due("ignored", x.ignored(folder), true);
                due("lastMatch", x.lastMatch(folder), 0);
                due("matches", x.matches(folder), 1);
                due("cutAt", x.cutAt(folder), 2);
                due("rules", x.rules(), 1);
            }
        }
        due("pattern behind questions", x.pattern(1), 2);
        due("rule behind questions", x.rule(0), 1);
        due("path behind questions", x.path(9), 3);
        due("rules behind questions", x.rules(), 2);
    }

    private static void rulesAndNumbers() {
        IgnoreRules x = new IgnoreRules();
        due("first", add(x, "a", 0), 0);
        due("second", add(x, "b/c", ANCHORED | FOLDERS_ONLY | NEGATED), 1);
        due("rules", x.rules(), 2);
        due("bad rule", add(x, "/", 0), IgnoreRules.BAD_RULE);
        due("rules behind a bad rule", x.rules(), 2);
        due("dropRule", x.dropRule(), 1);
        due("rules behind dropRule", x.rules(), 1);
        due("the number is given anew", add(x, "d", 0), 1);
        due("rules", x.rules(), 2);
        walk(x, "e/d");
        due("nothing of the old rule is left", x.lastMatch(FILE), 1);
        due("not its negation", x.cutAt(FILE), 2);
        walk(x, "b/c");
        due("not its characters", x.lastMatch(FOLDER), IgnoreRules.NONE);

        for (int i = 2; i < 12; i++) {
            due("number", add(x, "a", 0), i);
        }
        due("full", add(x, "a", 0), IgnoreRules.FULL);
        due("dropRule of twelve", x.dropRule(), 11);
        due("room again", add(x, "f", 0), 11);
        due("full again", add(x, "a", 0), IgnoreRules.FULL);
        due("rules at the end", x.rules(), 12);
    }

    public static void main(String[] args) {
        newObject();
        pattern();
        goodRules();
        fullRules();
        marks();
        dropRule();
        path();
        clearPath();
        noPath();
        partsAndNames();
        partsAndPaths();
        ignoredAndCutAt();
        lastMatchAndMatches();
        questionsChangeNothing();
        rulesAndNumbers();
        System.out.println(wrong == 0 ? "all answers are as due" : wrong + " answers are not as due");
        if (wrong != 0) {
            System.exit(1);
        }
    }
}
