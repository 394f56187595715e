/**
 * Each sentence of the document that names a boundary case, with a test of its own. The words of the
 * sentence stand at the test, in main, and are printed when it fails.
 *
 * Patterns and paths are written as text: a to f are the letters 1 to 6, '*' is STAR, '?' is QUERY,
 * '/' is SLASH and '#' is TWO STARS.
 */
public final class BoundaryTest {
    private static final int NEGATED = 1;
    private static final int ANCHORED = 2;
    private static final int FOLDERS_ONLY = 4;
    private static final boolean FILE = false;
    private static final boolean FOLDER = true;
    private static final boolean[] BOTH = {FILE, FOLDER};

    private static final int BAD_CHAR = IgnoreRules.BAD_CHAR;
    private static final int FULL = IgnoreRules.FULL;
    private static final int BAD_RULE = IgnoreRules.BAD_RULE;
    private static final int BAD_PATH = IgnoreRules.BAD_PATH;
    private static final int NONE = IgnoreRules.NONE;

    // Those behind 100 become a character that is allowed if they are cut to a byte, a short or a shift's width.
    private static final int[] NO_PATTERN_CHARS = {0, 11, -1, 12, 100, 257, 265, 65537, 65545, 33, 65, -255, -65535,
        Integer.MIN_VALUE, Integer.MIN_VALUE + 1, Integer.MAX_VALUE};
    private static final int[] NO_PATH_CHARS = {0, 7, 8, 10, 11, -1, -9, 100, 257, 265, 65537, 65545, 33, 41, 65, -255,
        Integer.MIN_VALUE, Integer.MIN_VALUE + 1, Integer.MAX_VALUE};

    // No name ends with the letter that the next one begins with, so that names kept too close together show.
    private static final String FULL_PATH = "abcdefab/cdefabcd/efabcdef/badcfeba/dcfebadc/fabcdefa";

    private interface Calls {
        void on(IgnoreRules x);
    }

    private static String tested = "";
    private static int wrong = 0;

    // ---- how a sentence is tested

    private static void sentence(String place, String words, Runnable test) {
        tested = place + " \"" + words + "\"";
        try {
            test.run();
        } catch (RuntimeException thrown) {
            wrong++;
            System.out.println(tested + ": a call threw " + thrown);
        }
    }

    private static void due(String what, long got, long want) {
        if (got != want) {
            wrong++;
            System.out.println(tested + ": " + what + " answered " + got + ", due is " + want);
        }
    }

    private static void due(String what, boolean got, boolean want) {
        due(what, got ? 1 : 0, want ? 1 : 0);
    }

    private static int code(char c) {
        return "abcdef*?/#".indexOf(c) + 1;
    }

    private static void type(IgnoreRules x, String pattern) {
        for (int i = 0; i < pattern.length(); i++) {
            x.pattern(code(pattern.charAt(i)));
        }
    }

    private static int add(IgnoreRules x, String pattern, int marks) {
        type(x, pattern);
        return x.rule(marks);
    }

    private static IgnoreRules with(String pattern, int marks) {
        IgnoreRules x = new IgnoreRules();
        add(x, pattern, marks);
        return x;
    }

    /** So many rules that all are the letter f. */
    private static IgnoreRules withRules(int count) {
        IgnoreRules x = new IgnoreRules();
        for (int i = 0; i < count; i++) {
            add(x, "f", 0);
        }
        return x;
    }

    private static void append(IgnoreRules x, String path) {
        for (int i = 0; i < path.length(); i++) {
            x.path(code(path.charAt(i)));
        }
    }

    private static void walk(IgnoreRules x, String path) {
        x.clearPath();
        append(x, path);
    }

    private static IgnoreRules at(String path) {
        IgnoreRules x = new IgnoreRules();
        append(x, path);
        return x;
    }

    private static void dueRule(String pattern, int want) {
        due("rule of '" + pattern + "'", add(new IgnoreRules(), pattern, 0), want);
    }

    private static void dueMatch(String pattern, int marks, String path, boolean folder, boolean want) {
        IgnoreRules x = new IgnoreRules();
        String what = pattern + " with marks " + marks + " on " + path + (folder ? ", a folder" : ", a file");
        due("rule: " + what, add(x, pattern, marks), 0);
        walk(x, path);
        due("matches: " + what, x.matches(folder), want ? 1 : 0);
    }

    private static void fits(String pattern, int marks, String path) {
        for (boolean folder : BOTH) {
            dueMatch(pattern, marks, path, folder, true);
        }
    }

    private static void fitsNot(String pattern, int marks, String path) {
        for (boolean folder : BOTH) {
            dueMatch(pattern, marks, path, folder, false);
        }
    }

    private static void dueCut(IgnoreRules x, String path, boolean folder, int want) {
        walk(x, path);
        String what = path + (folder ? ", a folder" : ", a file");
        due("cutAt of " + what, x.cutAt(folder), want);
        due("ignored of " + what, x.ignored(folder), want != NONE);
    }

    private static String questions(IgnoreRules x) {
        StringBuilder answers = new StringBuilder("rules " + x.rules());
        for (boolean folder : BOTH) {
            answers.append(' ').append(x.ignored(folder)).append(' ').append(x.lastMatch(folder));
            answers.append(' ').append(x.matches(folder)).append(' ').append(x.cutAt(folder));
        }
        return answers.append('\n').toString();
    }

    /** All that can be seen of an object's state; the object is used up by it. */
    private static String state(IgnoreRules x) {
        StringBuilder seen = new StringBuilder(questions(x));
        for (int name = 0; name < 7; name++) {
            for (int letter = 0; letter < 9; letter++) {
                seen.append(x.path(1)).append(' ');
            }
            seen.append("next ").append(x.path(9)).append(' ').append(questions(x));
        }
        walk(x, "ab/c");
        seen.append("rule ").append(x.rule(0)).append(' ').append(questions(x));
        seen.append("rule ").append(x.rule(0)).append('\n');
        for (int i = 0; i < 13; i++) {
            seen.append("drop ").append(x.dropRule()).append(' ').append(questions(x));
        }
        seen.append("pattern ").append(x.pattern(1)).append('\n');
        return seen.toString();
    }

    /** The calls leave no trace behind the others: an object that had them is as one that had them not. */
    private static void changeNothing(String what, Calls before, Calls refused) {
        IgnoreRules plain = new IgnoreRules();
        before.on(plain);
        IgnoreRules other = new IgnoreRules();
        before.on(other);
        refused.on(other);
        due(what + " left the state as it was", state(other).equals(state(plain)), true);

        // Once more for what the pattern buffer has, which is not seen among twelve rules.
        plain = new IgnoreRules();
        before.on(plain);
        other = new IgnoreRules();
        before.on(other);
        refused.on(other);
        due(what + " left the length of the pattern buffer as it was", other.pattern(2), plain.pattern(2));
        due(what + " left the pattern buffer good or not as it was", other.rule(0), plain.rule(0));
    }

    private static void dueNoPath(String what, IgnoreRules x) {
        for (boolean folder : BOTH) {
            due("ignored, " + what, x.ignored(folder), false);
            due("lastMatch, " + what, x.lastMatch(folder), NONE);
            due("matches, " + what, x.matches(folder), 0);
            due("cutAt, " + what, x.cutAt(folder), NONE);
        }
    }

    /** Rules that match whatever is a path, and would match names that are left over or empty. */
    private static IgnoreRules matchingAll() {
        IgnoreRules x = with("#", 0);
        add(x, "*", 0);
        add(x, "#", ANCHORED);
        add(x, "*", ANCHORED);
        add(x, "#/#", 0);
        add(x, "#/*", 0);
        add(x, "*/#", 0);
        add(x, "*/*", 0);
        return x;
    }

    /** The six buffers, by the number of their names, whose last name is empty. */
    private static String endingEmpty(int names) {
        return "a/b/c/d/e/".substring(0, 2 * names - 2);
    }

    private static String firstNames(int names) {
        return "a/b/c/d/e/f".substring(0, 2 * names - 1);
    }

    // ---- 'What it is'

    private static void holdsForAllCalls() {
        IgnoreRules x = new IgnoreRules();
        for (int i = 0; i < 101; i++) {
            due("pattern in round " + i, x.pattern(1 + i % 6), 1);
            due("rule in round " + i, x.rule(0), 0);
            due("path in round " + i, x.path(1 + i % 6), 1);
            due("dropRule in round " + i, x.dropRule(), 0);
            x.clearPath();
        }
        due("call 506", x.pattern(1), 1);
        due("call 507", x.rule(0), 0);
        due("call 508", x.path(1), 1);
        due("call 509", x.ignored(FILE), true);
        due("call 510", x.matches(FILE), 1);
        due("call 511", x.lastMatch(FILE), 0);
        due("call 512", x.cutAt(FILE), 1);
    }

    // ---- 'Terms'

    private static void oneToSixNames() {
        dueNoPath("no name", matchingAll());
        for (int names = 1; names <= 6; names++) {
            IgnoreRules x = with("#", ANCHORED);
            append(x, firstNames(names));
            due("matches of " + names + " names", x.matches(FILE), 1);
        }
        due("a seventh name", at("a/b/c/d/e/f").path(9), BAD_PATH);
        dueMatch("#/f", 0, "a/b/c/d/e/f", FILE, true);
        dueMatch("a/#/e/f", 0, "a/b/c/d/e/f", FILE, true);
    }

    private static void oneToEightLetters() {
        dueNoPath("no letter", matchingAll());
        for (int letters = 1; letters <= 8; letters++) {
            String name = "abcdefab".substring(0, letters);
            fits(name, 0, name);
            fits("????????".substring(0, letters), 0, name);
            fitsNot("?????????".substring(0, letters + 1), 0, name);
            fits(name, 0, "c/" + name);
        }
        due("a ninth letter", at("abcdefab").path(1), FULL);
        due("letter 1", new IgnoreRules().path(1), 1);
        due("letter 6", new IgnoreRules().path(6), 1);
        due("letter 0", new IgnoreRules().path(0), BAD_CHAR);
        due("letter 7", new IgnoreRules().path(7), BAD_CHAR);
    }

    private static void sixNamesOfEightLetters() {
        IgnoreRules x = new IgnoreRules();
        String[] names = FULL_PATH.split("/");
        append(x, FULL_PATH);
        for (int n = 0; n < 6; n++) {
            due("rule of a whole name", add(x, n == 0 ? names[n] : "#/" + names[n], n == 0 ? ANCHORED : 0), n);
        }
        due("the longest path is kept whole, cut at its first name", x.cutAt(FILE), 1);
        due("the last name of the longest path", x.lastMatch(FILE), 5);
        due("only the last name is the last", x.matches(FILE), 1);
        for (int n = 0; n < 6; n++) {
            IgnoreRules one = with(names[n], 0);
            dueCut(one, FULL_PATH, FILE, n + 1);
        }
    }

    private static void upToTenCharacters() {
        for (int length = 1; length <= 10; length++) {
            dueRule("abcdefabcd".substring(0, length), 0);
        }
        IgnoreRules x = new IgnoreRules();
        type(x, "abcdefabcd");
        due("an eleventh character", x.pattern(1), FULL);
        fits("**abcdefab", 0, "abcdefab");
        fitsNot("**abcdefab", 0, "abcdefaa");
        fitsNot("**abcdefab", 0, "bbcdefab");
        fits("#/abcdefab", 0, "c/abcdefab");
        fits("a/b/c/d/*e", 0, "a/b/c/d/e");
        fitsNot("a/b/c/d/*e", 0, "a/b/c/d/f");
    }

    private static void twelveRulesOfTenCharacters() {
        IgnoreRules x = new IgnoreRules();
        String ends = "abcdef";
        for (int i = 0; i < 12; i++) {
            due("rule of ten", add(x, "********" + ends.charAt(i / 6) + ends.charAt(i % 6), 0), i);
        }
        for (int i = 0; i < 12; i++) {
            walk(x, "f/" + ends.charAt(i / 6) + ends.charAt(i % 6));
            due("lastMatch of rule " + i, x.lastMatch(FILE), i);
            due("matches of rule " + i, x.matches(FILE), 1);
        }
    }

    private static void thatLetter() {
        for (int i = 0; i < 6; i++) {
            for (int k = 0; k < 6; k++) {
                String letter = "abcdef".substring(i, i + 1);
                String name = "abcdef".substring(k, k + 1);
                dueMatch(letter, 0, name, FILE, i == k);
            }
        }
    }

    private static void starStandsForNone() {
        fits("a*", 0, "a");
        fits("*a", 0, "a");
        fits("a*b", 0, "ab");
        fits("*a*b*", 0, "ab");
        fits("*********a", 0, "a");
        fits("*/a*", 0, "b/a");
    }

    private static void starStandsForAny() {
        for (int letters = 1; letters <= 8; letters++) {
            fits("*", 0, "abcdefab".substring(0, letters));
        }
        fits("a*b", 0, "acdefcdb");
        fits("*ab", 0, "aab");
        fits("*a*b", 0, "cacabdb");
        fitsNot("a*b", 0, "acdefcda");
        fitsNot("*ab", 0, "abc");
    }

    private static void starStaysWithinOneName() {
        fitsNot("*", ANCHORED, "a/b");
        fitsNot("a*b", ANCHORED, "a/b");
        fitsNot("a*b", 0, "a/b");
        fitsNot("a/*", 0, "a/b/c");
        fitsNot("*/c", 0, "a/b/c");
        fitsNot("a/*", 0, "a");
    }

    private static void queryIsOneLetter() {
        for (char letter : "abcdef".toCharArray()) {
            fits("?", 0, "" + letter);
        }
        fitsNot("?", 0, "ab");
        fitsNot("a?", 0, "a");
        fitsNot("?a", 0, "a");
        fitsNot("a?b", 0, "ab");
        fits("a?b", 0, "acb");
        fitsNot("a?b", 0, "accb");
        fitsNot("a?b", 0, "a/b");
        fitsNot("?*?", 0, "a");
        fits("?*?", 0, "ab");
    }

    private static void slashGoesToTheNextName() {
        fits("a/b", 0, "a/b");
        fitsNot("a/b", 0, "ab");
        fitsNot("a/b", 0, "a");
        fitsNot("a/b", 0, "b");
        fitsNot("a/b", 0, "a/c/b");
        fitsNot("ab", ANCHORED, "a/b");
    }

    private static void twoStarsStandForNone() {
        fits("#/a", 0, "a");
        fits("a/#", 0, "a");
        fits("a/#/b", 0, "a/b");
        fits("#/a/#", 0, "a");
        fits("#/#/#/#/a", 0, "a");
        fits("a/#/#/#/b", 0, "a/b");
        fits("#/#", 0, "a");
        fits("#/#/#/#/#", 0, "a");
    }

    private static void twoStarsStandForAny() {
        for (int names = 1; names <= 6; names++) {
            fits("#", ANCHORED, firstNames(names));
            fits("#/#", 0, firstNames(names));
            fits("a/#", 0, firstNames(names));
            fits("#/" + "abcdef".charAt(names - 1), 0, firstNames(names));
        }
        fits("a/#/f", 0, "a/b/c/d/e/f");
        fits("#/c/#", 0, "a/b/c/d/e/f");
        fits("#/a/#/b", 0, "c/a/b/a/b");
    }

    private static void twoStarsStandForWholeNames() {
        fitsNot("#/b", 0, "a/ab");
        fitsNot("a/#", 0, "ab");
        fitsNot("a/#", 0, "ab/c");
        fitsNot("a/#/b", 0, "ab");
        fitsNot("a/#/b", 0, "ac/b");
        fitsNot("#/a/#", 0, "b/ab/c");
    }

    private static void twoStarsFirstOrBehindSlash() {
        dueRule("#", 0);
        dueRule("#/a", 0);
        dueRule("a/#", 0);
        dueRule("a/#/b", 0);
        for (String before : new String[] {"a", "f", "*", "?", "#"}) {
            dueRule(before + "#", BAD_RULE);
            dueRule(before + "#/a", BAD_RULE);
            dueRule("a/" + before + "#", BAD_RULE);
            dueRule("a/" + before + "#/b", BAD_RULE);
        }
        dueRule("abcdefabc#", BAD_RULE);
        dueRule("abcdefab/#", 0);
    }

    private static void twoStarsLastOrBeforeSlash() {
        dueRule("#", 0);
        dueRule("#/a", 0);
        dueRule("a/#", 0);
        dueRule("a/#/b", 0);
        for (String behind : new String[] {"a", "f", "*", "?", "#"}) {
            dueRule("#" + behind, BAD_RULE);
            dueRule("#" + behind + "/a", BAD_RULE);
            dueRule("a/#" + behind, BAD_RULE);
            dueRule("a/#" + behind + "/b", BAD_RULE);
        }
        dueRule("#abcdefabc", BAD_RULE);
        dueRule("#/abcdefab", 0);
    }

    private static void atLeastOneCharacter() {
        dueRule("", BAD_RULE);
        for (char c : "abcdef*?#".toCharArray()) {
            dueRule("" + c, 0);
        }
        IgnoreRules x = with("a", 0);
        due("rule of nothing behind a rule", x.rule(0), BAD_RULE);
        due("rule of nothing with marks", x.rule(NEGATED | ANCHORED | FOLDERS_ONLY), BAD_RULE);
        due("rules", x.rules(), 1);
    }

    private static void neitherBeginsNorEndsWithSlash() {
        dueRule("/", BAD_RULE);
        dueRule("/a", BAD_RULE);
        dueRule("a/", BAD_RULE);
        dueRule("/a/", BAD_RULE);
        dueRule("/#", BAD_RULE);
        dueRule("#/", BAD_RULE);
        dueRule("/*", BAD_RULE);
        dueRule("*/", BAD_RULE);
        dueRule("/abcdefabc", BAD_RULE);
        dueRule("abcdefabc/", BAD_RULE);
        dueRule("a/bcdefabc", 0);
        dueRule("abcdefab/c", 0);
    }

    private static void noTwoSlashesTogether() {
        dueRule("//", BAD_RULE);
        dueRule("a//b", BAD_RULE);
        dueRule("a///b", BAD_RULE);
        dueRule("a/b//c", BAD_RULE);
        dueRule("#//a", BAD_RULE);
        dueRule("a//#", BAD_RULE);
        dueRule("abcdefa//b", BAD_RULE);
        dueRule("a//bcdefab", BAD_RULE);
        dueRule("a/b/c/d/e", 0);
    }

    private static void everyTwoStarsWellPlaced() {
        dueRule("#/#", 0);
        dueRule("#/#/#/#/#", 0);
        dueRule("#/a/#", 0);
        dueRule("#/a#", BAD_RULE);
        dueRule("#a/#", BAD_RULE);
        dueRule("#/#/#/##", BAD_RULE);
        dueRule("##/#/#/#", BAD_RULE);
        dueRule("#/a#/#", BAD_RULE);
        dueRule("#/#a/#", BAD_RULE);
        dueRule("##########", BAD_RULE);
    }

    private static void lettersOfThePartInOrder() {
        fits("abc", 0, "abc");
        fitsNot("abc", 0, "ab");
        fitsNot("abc", 0, "bc");
        fitsNot("abc", 0, "abcd");
        fitsNot("abc", 0, "aabc");
        fitsNot("abc", 0, "cba");
        fitsNot("abcdefabc", 0, "abcdefab");
        fitsNot("?????????", 0, "abcdefab");
        fitsNot("*?????????", 0, "abcdefab");
        fits("*????????*", 0, "abcdefab");
    }

    private static void eachStarForItself() {
        fits("*a*", 0, "a");
        fits("*a*", 0, "bbbabbbb");
        fits("*a*", 0, "abbbbbbb");
        fits("*a*", 0, "bbbbbbba");
        fits("*a*b*c*", 0, "abc");
        fits("*a*b*c*", 0, "dadbdcd");
        fits("*a*a*a*", 0, "aabaaaab");
        fitsNot("*a*a*a*", 0, "babbbbab");
        fitsNot("*a*b*c*", 0, "cbacba");
        fitsNot("*a*", 0, "bcdefbcd");
    }

    private static void eachTwoStarsForItself() {
        fits("#/a/#", 0, "a");
        fits("#/a/#", 0, "b/b/a/b/b/b");
        fits("#/a/#", 0, "a/b/b/b/b/b");
        fits("#/a/#", 0, "b/b/b/b/b/a");
        fits("#/a/#/b/#", 0, "a/b");
        fits("#/a/#/b/#", 0, "c/a/c/b/c");
        fits("#/a/#/a/#", 0, "b/a/b/b/a/b");
        fitsNot("#/a/#/a/#", 0, "b/b/b/a/b/b");
        fitsNot("#/a/#/b/#", 0, "b/b/c/a/a/a");
        fitsNot("#/a/#", 0, "b/c/d/e/f/b");
    }

    private static void namesWithoutRest() {
        fitsNot("a/b", 0, "a/b/c");
        fitsNot("a/b", 0, "c/a/b");
        fitsNot("a/b", 0, "b/a");
        fitsNot("a/#/b", 0, "a/b/c");
        fitsNot("a/#/b", 0, "c/a/b");
        fitsNot("#/a", 0, "a/b");
        fitsNot("a/#", 0, "b/a");
        fitsNot("#/a/b/#", 0, "b/a");
        fitsNot("*/*/*/*/*", 0, "a/b/c/d/e/f");
        fits("*/*/*/*/*", 0, "a/b/c/d/e");
    }

    private static void otherPartsStandForOneName() {
        fitsNot("*/*/*/*/*", 0, "a/b/c/d");
        fitsNot("a/*/b", 0, "a/b");
        fitsNot("a/*/b", 0, "a/c/c/b");
        fits("a/*/b", 0, "a/c/b");
        fitsNot("#/a/a", 0, "a");
        fitsNot("a/#/a", 0, "a");
        fitsNot("*/#/*/*", 0, "a/b");
        fits("*/#/*/*", 0, "a/b/c");
        fitsNot("a/?/b", 0, "a/cc/b");
    }

    private static void foldersOnly() {
        for (String pattern : new String[] {"b", "*", "#", "a/b", "#/b"}) {
            dueMatch(pattern, FOLDERS_ONLY, "a/b", FILE, false);
            dueMatch(pattern, FOLDERS_ONLY, "a/b", FOLDER, true);
            dueMatch(pattern, 0, "a/b", FILE, true);
            dueMatch(pattern, 0, "a/b", FOLDER, true);
        }
        dueMatch("a", FOLDERS_ONLY | ANCHORED, "a", FILE, false);
        dueMatch("a", FOLDERS_ONLY | ANCHORED, "a", FOLDER, true);
        dueMatch("a", FOLDERS_ONLY, "b", FOLDER, false);
    }

    private static void allNamesIfAnchoredOrMoreParts() {
        fits("b", ANCHORED, "b");
        fitsNot("b", ANCHORED, "a/b");
        fitsNot("a", ANCHORED, "a/b");
        fitsNot("b/c", 0, "a/b/c");
        fitsNot("b/c", ANCHORED, "a/b/c");
        fits("a/b/c", 0, "a/b/c");
        fits("a/b/c", ANCHORED, "a/b/c");
    }

    private static void elseTheLastName() {
        for (int names = 1; names <= 6; names++) {
            String path = firstNames(names);
            for (int i = 0; i < 6; i++) {
                dueMatch("abcdef".substring(i, i + 1), 0, path, FILE, i == names - 1);
            }
        }
    }

    private static void twoStarsAloneFitAnyName() {
        for (int names = 1; names <= 6; names++) {
            fits("#", 0, firstNames(names));
        }
        fits("#", 0, "abcdefab");
        fits("#", 0, FULL_PATH);
        dueCut(with("#", 0), "a/b/c", FILE, 1);
    }

    private static void beginningsAreFolders() {
        for (int names = 1; names <= 6; names++) {
            String path = firstNames(names);
            for (int i = 1; i <= names; i++) {
                IgnoreRules x = with("abcdef".substring(i - 1, i), FOLDERS_ONLY);
                dueCut(x, path, FILE, i < names ? i : NONE);
                dueCut(x, path, FOLDER, i);
            }
        }
    }

    private static void ignoredWithItsBeginning() {
        IgnoreRules x = with("a", 0);
        add(x, "a/b", NEGATED);
        add(x, "a/b/#", NEGATED);
        dueCut(x, "a/b", FILE, 1);
        dueCut(x, "a/b/c", FILE, 1);
        dueCut(x, "c/a/b", FILE, 2);
        dueCut(x, "c/d/e/f/a/b", FILE, 5);
        dueCut(x, "c/d/e/f/b/a", FILE, 6);
        dueCut(x, "c/d/e/f/b/b", FILE, NONE);
    }

    private static void lastRuleDecides() {
        IgnoreRules x = with("a", NEGATED);
        add(x, "a", 0);
        dueCut(x, "a", FILE, 1);
        add(x, "a", NEGATED);
        dueCut(x, "a", FILE, NONE);
        add(x, "a", 0);
        dueCut(x, "a", FILE, 1);
        add(x, "b", NEGATED);
        dueCut(x, "a", FILE, 1);
    }

    private static void notIfNegatedOrNone() {
        dueCut(new IgnoreRules(), "a/b", FOLDER, NONE);
        dueCut(with("c", 0), "a/b", FOLDER, NONE);
        dueCut(with("#", NEGATED), "a/b", FOLDER, NONE);
        IgnoreRules x = with("#", 0);
        add(x, "a", NEGATED);
        dueCut(x, "a", FILE, NONE);
        dueCut(x, "a/a", FILE, NONE);
        dueCut(x, "a/b", FILE, 2);
    }

    private static final int QUESTIONS = 9;

    private static int question(IgnoreRules x, int number) {
        boolean folder = number % 2 == 1;
        switch (number / 2) {
            case 0:
                return x.ignored(folder) ? 1 : 0;
            case 1:
                return x.lastMatch(folder);
            case 2:
                return x.matches(folder);
            case 3:
                return x.cutAt(folder);
            default:
                return x.rules();
        }
    }

    /** Each question is asked behind each other one, and answered as on an object that was asked no other. */
    private static void answersStay(String what, Calls before) {
        for (int first = 0; first < QUESTIONS; first++) {
            int earlier = first;
            changeNothing("question " + first + " " + what, before, x -> question(x, earlier));
            for (int second = 0; second < QUESTIONS; second++) {
                IgnoreRules plain = new IgnoreRules();
                before.on(plain);
                IgnoreRules asked = new IgnoreRules();
                before.on(asked);
                question(asked, first);
                due("question " + second + " behind question " + first + " " + what, question(asked, second),
                        question(plain, second));
            }
        }
    }

    private static void questionsChangeNothing() {
        answersStay("on a new object", x -> { });
        answersStay("on a path", x -> {
            add(x, "a", NEGATED);
            add(x, "#/b", FOLDERS_ONLY);
            add(x, "d", 0);
            type(x, "*/c");
            append(x, "ab/b");
        });
        answersStay("on an ignored path", x -> {
            add(x, "*", 0);
            add(x, "a/#/c", 0);
            type(x, "*");
            append(x, "a/b/c");
        });
        answersStay("on no path", x -> {
            add(x, "#", 0);
            type(x, "*");
            append(x, "ab/");
        });
        answersStay("on the empty path buffer", x -> {
            add(x, "#", 0);
            type(x, "*");
        });
    }

    private static void emptyLastNameIsNoPath() {
        for (int names = 1; names <= 6; names++) {
            IgnoreRules x = matchingAll();
            append(x, endingEmpty(names));
            dueNoPath(names + " names, the last one empty", x);
            x.path(1);
            due(names + " names, the last one of one letter", x.ignored(FILE), true);
        }
    }

    private static void emptyBufferIsNoPath() {
        dueNoPath("a new object", new IgnoreRules());
        IgnoreRules x = matchingAll();
        dueNoPath("the empty buffer", x);
        append(x, FULL_PATH);
        x.clearPath();
        dueNoPath("the emptied buffer", x);
    }

    // ---- promise 1

    private static void newHasNoRules() {
        due("rules", new IgnoreRules().rules(), 0);
        due("dropRule", new IgnoreRules().dropRule(), NONE);
        IgnoreRules x = at("a");
        due("matches", x.matches(FOLDER), 0);
        due("lastMatch", x.lastMatch(FOLDER), NONE);
        due("the first number", add(x, "a", 0), 0);
        IgnoreRules beside = new IgnoreRules();
        due("rules beside an object that has one", beside.rules(), 0);
    }

    private static void newHasEmptyBuffers() {
        due("rule of the empty pattern buffer", new IgnoreRules().rule(0), BAD_RULE);
        due("the first character", new IgnoreRules().pattern(10), 1);
        due("the first letter", new IgnoreRules().path(6), 1);
        due("a new name at once", new IgnoreRules().path(9), BAD_PATH);
        dueNoPath("new object", new IgnoreRules());
        IgnoreRules used = at("ab/c");
        type(used, "abc");
        IgnoreRules beside = new IgnoreRules();
        due("pattern beside an object that has three", beside.pattern(1), 1);
        due("path beside an object that has two names", beside.path(1), 1);
    }

    // ---- promise 2

    private static void patternOutsideOneToTen() {
        for (int c : NO_PATTERN_CHARS) {
            due("pattern(" + c + ") in the empty buffer", new IgnoreRules().pattern(c), BAD_CHAR);
        }
        for (int c = 1; c <= 10; c++) {
            due("pattern(" + c + ")", new IgnoreRules().pattern(c), 1);
        }
    }

    private static void patternFull() {
        for (int c = 1; c <= 10; c++) {
            IgnoreRules x = new IgnoreRules();
            type(x, "abcdefabc");
            due("a tenth character " + c, x.pattern(c), 10);
            due("an eleventh character " + c, x.pattern(c), FULL);
            due("a twelfth character " + c, x.pattern(c), FULL);
        }
    }

    private static void refusedPatternChangesNothing() {
        Calls wrongChars = x -> {
            for (int c : NO_PATTERN_CHARS) {
                x.pattern(c);
            }
        };
        changeNothing("wrong characters in the empty buffer", x -> append(x, "a"), wrongChars);
        changeNothing("wrong characters behind two", x -> type(x, "ab"), wrongChars);
        changeNothing("wrong characters behind ten", x -> type(x, "*a/*******"), wrongChars);
        changeNothing("characters behind ten", x -> {
            add(x, "c", 0);
            append(x, "ab/c");
            type(x, "ab/*******");
        }, x -> {
            for (int c = 1; c <= 10; c++) {
                x.pattern(c);
            }
        });
        IgnoreRules x = new IgnoreRules();
        type(x, "**abcdefab");
        x.pattern(3);
        x.pattern(0);
        due("rule behind refused characters", x.rule(0), 0);
        walk(x, "abcdefab");
        due("matches behind refused characters", x.matches(FILE), 1);
    }

    private static void patternAnswersHowMany() {
        IgnoreRules x = new IgnoreRules();
        for (int c = 1; c <= 10; c++) {
            due("pattern(" + c + ")", x.pattern(c), c);
            due("pattern(0) between", x.pattern(0), BAD_CHAR);
        }
    }

    // ---- promise 3

    private static void marksByBits() {
        for (int marks = 0; marks < 8; marks++) {
            boolean negated = (marks & 1) != 0;
            boolean anchored = (marks & 2) != 0;
            boolean foldersOnly = (marks & 4) != 0;
            dueMatch("b", marks, "b", FOLDER, true);
            dueMatch("b", marks, "b", FILE, !foldersOnly);
            dueMatch("b", marks, "a/b", FOLDER, !anchored);
            dueCut(with("b", marks), "b", FOLDER, negated ? NONE : 1);
        }
    }

    private static void otherBitsNotLookedAt() {
        for (int bit = 3; bit < 32; bit++) {
            dueCut(with("b", 1 << bit), "a/b", FILE, 2);
        }
        for (int other : new int[] {~7, Integer.MIN_VALUE, 8, 0x7ffffff8}) {
            dueCut(with("b", other), "a/b", FILE, 2);
            dueCut(with("b", other | NEGATED), "a/b", FILE, NONE);
            fitsNot("b", other | ANCHORED, "a/b");
            dueMatch("b", other | FOLDERS_ONLY, "a/b", FILE, false);
            dueMatch("b", other | FOLDERS_ONLY, "a/b", FOLDER, true);
        }
        due("rule with all bits", add(new IgnoreRules(), "a", -1), 0);
        due("bad rule with all bits", new IgnoreRules().rule(-1), BAD_RULE);
    }

    private static void ruleNotGood() {
        for (String pattern : new String[] {"", "/", "/a", "a/", "a//b", "a#", "#a", "##", "a/b#", "#b/a"}) {
            dueRule(pattern, BAD_RULE);
            IgnoreRules x = withRules(3);
            due("rule of '" + pattern + "' behind three", add(x, pattern, 7), BAD_RULE);
        }
    }

    private static void ruleFull() {
        IgnoreRules x = withRules(11);
        due("the twelfth rule", add(x, "a", 0), 11);
        due("the thirteenth rule", add(x, "b", 0), FULL);
        due("the thirteenth rule, said again", add(x, "b", 7), FULL);
        x.dropRule();
        due("the twelfth rule, said anew", add(x, "b", 0), 11);
    }

    private static void badRuleBeforeFull() {
        for (String pattern : new String[] {"", "/", "a/", "/a", "a//b", "a#", "#a"}) {
            IgnoreRules x = withRules(12);
            due("rule of '" + pattern + "' behind twelve", add(x, pattern, 0), BAD_RULE);
        }
    }

    private static void patternBufferEmptyAfterRule() {
        IgnoreRules x = new IgnoreRules();
        due("a good rule", add(x, "a/b", 0), 0);
        due("rule at once behind a good one", x.rule(0), BAD_RULE);
        due("pattern behind a good rule", x.pattern(1), 1);

        IgnoreRules bad = new IgnoreRules();
        due("a bad rule", add(bad, "a/", 0), BAD_RULE);
        due("pattern behind a bad rule", bad.pattern(2), 1);
        due("rule behind a bad rule", bad.rule(0), 0);
        walk(bad, "b");
        due("nothing of the bad rule is left", bad.matches(FILE), 1);

        IgnoreRules full = withRules(12);
        due("a rule too many", add(full, "abcdefabcd", 0), FULL);
        due("rule at once behind a rule too many", full.rule(0), BAD_RULE);
        due("a rule too many, once more", add(full, "abc", 0), FULL);
        due("pattern behind a rule too many", full.pattern(1), 1);

        IgnoreRules both = withRules(12);
        due("a bad rule too many", add(both, "abc/", 0), BAD_RULE);
        due("pattern behind a bad rule too many", both.pattern(1), 1);

        IgnoreRules longest = new IgnoreRules();
        due("a bad rule of ten", add(longest, "abcdefabc/", 0), BAD_RULE);
        due("pattern behind a bad rule of ten", longest.pattern(1), 1);
    }

    private static void refusedRuleChangesNothing() {
        changeNothing("an empty rule", x -> {
            add(x, "a*", NEGATED);
            add(x, "c", FOLDERS_ONLY);
            append(x, "ab/c");
        }, x -> x.rule(2));
        changeNothing("a bad rule", x -> {
            add(x, "a*", 0);
            append(x, "ab/c/");
        }, x -> add(x, "#a", 7));
        changeNothing("a bad rule without rules", x -> append(x, "ab/c"), x -> add(x, "*/", 0));
        Calls twelve = x -> {
            for (int i = 0; i < 12; i++) {
                add(x, "c", 0);
            }
            append(x, "ab/c");
        };
        for (int marks = 0; marks < 8; marks++) {
            int given = marks;
            changeNothing("a rule too many with marks " + marks, twelve, x -> add(x, "d", given));
            changeNothing("a longer rule too many with marks " + marks, twelve, x -> add(x, "c/#", given));
            changeNothing("a bad rule too many with marks " + marks, twelve, x -> add(x, "##", given));
        }
    }

    private static void rulesNumberedFromZero() {
        IgnoreRules x = new IgnoreRules();
        for (int i = 0; i < 12; i++) {
            due("rule number", add(x, "a", i), i);
        }
        IgnoreRules between = new IgnoreRules();
        due("a bad rule", add(between, "/", 0), BAD_RULE);
        due("the first number", add(between, "a", 0), 0);
        due("a bad rule", add(between, "/", 0), BAD_RULE);
        due("a bad rule takes no number", add(between, "a", 0), 1);
    }

    // ---- promise 4

    private static void dropTakesTheLast() {
        IgnoreRules x = with("a", 0);
        add(x, "a", NEGATED);
        add(x, "a", 0);
        append(x, "a");
        due("lastMatch of three", x.lastMatch(FILE), 2);
        x.dropRule();
        due("lastMatch of two", x.lastMatch(FILE), 1);
        due("ignored of two", x.ignored(FILE), false);
        x.dropRule();
        due("lastMatch of one", x.lastMatch(FILE), 0);
        due("ignored of one", x.ignored(FILE), true);
        x.dropRule();
        due("lastMatch of none", x.lastMatch(FILE), NONE);
        due("ignored of none", x.ignored(FILE), false);
        IgnoreRules buffers = with("a", 0);
        type(buffers, "bc");
        append(buffers, "a/b");
        buffers.dropRule();
        due("the pattern buffer is kept", buffers.pattern(1), 3);
        due("the path buffer is kept", buffers.path(9), 3);
    }

    private static void dropWithoutRules() {
        due("dropRule of a new object", new IgnoreRules().dropRule(), NONE);
        IgnoreRules x = with("a", 0);
        x.dropRule();
        due("dropRule of none", x.dropRule(), NONE);
        due("dropRule of none, said again", x.dropRule(), NONE);
        due("rules", x.rules(), 0);
        due("the first number", add(x, "a", 0), 0);
        changeNothing("dropRule of none", y -> {
            type(y, "*/c");
            append(y, "ab/c");
        }, y -> y.dropRule());
    }

    private static void dropAnswersHowManyAreLeft() {
        IgnoreRules x = withRules(12);
        for (int left = 11; left >= 0; left--) {
            due("dropRule", x.dropRule(), left);
            due("rules", x.rules(), left);
        }
        IgnoreRules full = withRules(12);
        add(full, "a", 0);
        due("dropRule behind a refused rule", full.dropRule(), 11);
    }

    // ---- promise 5

    private static void pathAppendsToTheLastName() {
        fits("ab/cd", 0, "ab/cd");
        fitsNot("ab/cd", 0, "ab/dc");
        fitsNot("ab/cd", 0, "abc/d");
        for (int c = 1; c <= 6; c++) {
            IgnoreRules x = with("a/b" + "abcdef".charAt(c - 1), 0);
            append(x, "a/b");
            due("matches ahead of the last letter", x.matches(FILE), 0);
            due("path(" + c + ")", x.path(c), 2);
            due("matches behind the last letter", x.matches(FILE), 1);
        }
    }

    private static void pathOutsideLettersAndSlash() {
        for (int c : NO_PATH_CHARS) {
            due("path(" + c + ") in the empty buffer", new IgnoreRules().path(c), BAD_CHAR);
            due("path(" + c + ") behind a letter", at("a").path(c), BAD_CHAR);
        }
        for (int c = 1; c <= 6; c++) {
            due("path(" + c + ")", new IgnoreRules().path(c), 1);
        }
        due("path(9)", at("a").path(9), 2);
    }

    private static void slashBehindAnEmptyName() {
        for (int names = 1; names <= 6; names++) {
            IgnoreRules x = at(endingEmpty(names));
            due("path(9) on the empty name " + names, x.path(9), BAD_PATH);
            due("path(9) on the empty name " + names + ", said again", x.path(9), BAD_PATH);
            due("a letter behind it", x.path(1), names);
            due("path(9) behind the letter", x.path(9), names == 6 ? BAD_PATH : names + 1);
        }
    }

    private static void slashBehindSixNames() {
        for (int letters = 1; letters <= 8; letters++) {
            String name = "abcdefab".substring(0, letters);
            due("path(9) to the sixth name", at("a/b/c/d/" + name).path(9), 6);
            due("path(9) behind the sixth name", at("a/b/c/d/e/" + name).path(9), BAD_PATH);
        }
        due("path(9) behind the longest path", at(FULL_PATH).path(9), BAD_PATH);
    }

    private static void letterBehindEight() {
        for (int names = 1; names <= 6; names++) {
            for (int c = 1; c <= 6; c++) {
                IgnoreRules x = at(endingEmpty(names) + "abcdefa");
                due("an eighth letter " + c + " in name " + names, x.path(c), names);
                due("a ninth letter " + c + " in name " + names, x.path(c), FULL);
                due("a letter " + c + " once more in name " + names, x.path(c), FULL);
            }
        }
        due("path(9) behind eight letters", at("abcdefab").path(9), 2);
    }

    private static void badCharBeforeBadPathAndFull() {
        for (int c : NO_PATH_CHARS) {
            due("path(" + c + ") on an empty name", at("a/").path(c), BAD_CHAR);
            due("path(" + c + ") behind eight letters", at("abcdefab").path(c), BAD_CHAR);
            due("path(" + c + ") on an empty sixth name", at("a/b/c/d/e/").path(c), BAD_CHAR);
            due("path(" + c + ") behind six names", at("a/b/c/d/e/f").path(c), BAD_CHAR);
            due("path(" + c + ") behind the longest path", at(FULL_PATH).path(c), BAD_CHAR);
        }
    }

    private static void badPathAndFullApart() {
        IgnoreRules x = at(FULL_PATH);
        due("path(9) behind the longest path", x.path(9), BAD_PATH);
        due("path(1) behind the longest path", x.path(1), FULL);
        IgnoreRules six = at("a/b/c/d/e/");
        due("path(9) on an empty sixth name", six.path(9), BAD_PATH);
        due("path(1) on an empty sixth name", six.path(1), 6);
    }

    private static void refusedPathChangesNothing() {
        Calls wrongChars = x -> {
            for (int c : NO_PATH_CHARS) {
                x.path(c);
            }
        };
        Calls slash = x -> x.path(9);
        Calls letters = x -> append(x, "abcdef");
        Calls rules = x -> {
            add(x, "#/fabcdefa", 0);
            add(x, "#/c/#", NEGATED);
            add(x, "abcdefab", FOLDERS_ONLY);
            type(x, "*/c");
        };
        for (String path : new String[] {"", "a", "ab/", "ab/c", "a/b/c/d/e/", "a/b/c/d/e/f", FULL_PATH}) {
            changeNothing("wrong characters behind '" + path + "'", x -> {
                rules.on(x);
                append(x, path);
            }, wrongChars);
        }
        for (String path : new String[] {"", "ab/", "a/b/c/d/e/", "a/b/c/d/e/f", FULL_PATH}) {
            changeNothing("path(9) behind '" + path + "'", x -> {
                rules.on(x);
                append(x, path);
            }, slash);
        }
        for (String path : new String[] {"abcdefab", "c/fabcdefa", FULL_PATH}) {
            changeNothing("letters behind '" + path + "'", x -> {
                rules.on(x);
                append(x, path);
            }, letters);
        }
        IgnoreRules x = with("#/fabcdefa", 0);
        append(x, FULL_PATH);
        letters.on(x);
        slash.on(x);
        wrongChars.on(x);
        due("the last name is kept", x.matches(FILE), 1);
    }

    private static void emptyBufferIsOneEmptyName() {
        due("the first letter", new IgnoreRules().path(1), 1);
        due("path(9) at once", new IgnoreRules().path(9), BAD_PATH);
        IgnoreRules x = at("ab/c/");
        x.clearPath();
        due("path(9) behind clearPath", x.path(9), BAD_PATH);
        due("the first letter behind clearPath", x.path(1), 1);
        due("path(9) behind one letter", x.path(9), 2);
    }

    private static void pathAnswersHowManyNames() {
        IgnoreRules x = new IgnoreRules();
        for (int names = 1; names <= 6; names++) {
            for (int letters = 0; letters < 8; letters++) {
                due("a letter of name " + names, x.path(1 + letters % 6), names);
            }
            if (names < 6) {
                due("path(9), the new name being empty", x.path(9), names + 1);
            }
        }
    }

    // ---- promise 6

    private static void clearPathEmpties() {
        for (String path : new String[] {"", "a", "abcdefab", "a/", "a/b", "a/b/c/d/e/", "a/b/c/d/e/f", FULL_PATH}) {
            IgnoreRules x = matchingAll();
            append(x, path);
            x.clearPath();
            dueNoPath("'" + path + "' cleared", x);
            due("path(9) on '" + path + "' cleared", x.path(9), BAD_PATH);
            for (int letters = 0; letters < 8; letters++) {
                due("a letter on '" + path + "' cleared", x.path(1), 1);
            }
            due("a ninth letter on '" + path + "' cleared", x.path(1), FULL);
        }
        IgnoreRules x = with("#/b", 0);
        append(x, "a/b");
        x.clearPath();
        append(x, "a");
        due("nothing of the old path is left", x.matches(FILE), 0);
        due("a second name", x.path(9), 2);
        dueNoPath("the old second name is not there", x);
        due("its first letter", x.path(2), 2);
        due("the new path", x.matches(FILE), 1);
    }

    private static void clearPathLeavesTheRest() {
        IgnoreRules x = with("a", 0);
        type(x, "bc");
        x.clearPath();
        x.clearPath();
        due("rules", x.rules(), 1);
        due("the pattern buffer", x.pattern(1), 3);
        append(x, "a");
        due("the rule", x.matches(FILE), 1);
        changeNothing("clearPath of the empty buffer", y -> {
            add(y, "a*", 0);
            type(y, "*/c");
        }, y -> y.clearPath());
    }

    // ---- promises 7 to 11

    private static void ignoredAsFolderOrFile() {
        IgnoreRules x = with("a", FOLDERS_ONLY);
        append(x, "a");
        due("ignored, a folder", x.ignored(FOLDER), true);
        due("ignored, a file", x.ignored(FILE), false);
        append(x, "/b");
        due("ignored, a file in the folder", x.ignored(FILE), true);
        IgnoreRules back = with("a", 0);
        add(back, "a", NEGATED | FOLDERS_ONLY);
        append(back, "a");
        due("ignored, a folder that is taken back", back.ignored(FOLDER), false);
        due("ignored, a file that is not taken back", back.ignored(FILE), true);
        append(back, "/b");
        due("ignored, a file in the folder that is taken back", back.ignored(FILE), false);
    }

    private static void ignoredOfNoPath() {
        for (int names = 1; names <= 6; names++) {
            for (boolean folder : BOTH) {
                IgnoreRules x = matchingAll();
                append(x, endingEmpty(names));
                due("ignored, name " + names + " empty", x.ignored(folder), false);
            }
        }
    }

    private static void lastMatchOfTheWholePath() {
        IgnoreRules x = new IgnoreRules();
        append(x, "a/b");
        for (int i = 0; i < 12; i++) {
            add(x, "b", i % 2);
            due("lastMatch of rule " + i, x.lastMatch(FILE), i);
        }
        IgnoreRules first = with("b", 0);
        add(first, "a", 0);
        append(first, "a/b");
        due("lastMatch of the first rule", first.lastMatch(FILE), 0);
        IgnoreRules folders = with("b", 0);
        add(folders, "b", FOLDERS_ONLY);
        append(folders, "a/b");
        due("lastMatch, a file", folders.lastMatch(FILE), 0);
        due("lastMatch, a folder", folders.lastMatch(FOLDER), 1);
    }

    private static void lastMatchOfNone() {
        due("lastMatch without rules", at("a").lastMatch(FILE), NONE);
        IgnoreRules x = with("a", 0);
        append(x, "a/b");
        due("a beginning is not the whole path", x.lastMatch(FOLDER), NONE);
        IgnoreRules full = withRules(12);
        append(full, "a");
        due("none of twelve", full.lastMatch(FILE), NONE);
    }

    private static void lastMatchOfNoPath() {
        for (int names = 1; names <= 6; names++) {
            for (boolean folder : BOTH) {
                IgnoreRules x = matchingAll();
                append(x, endingEmpty(names));
                due("lastMatch, name " + names + " empty", x.lastMatch(folder), NONE);
            }
        }
    }

    private static void matchesOfTheWholePath() {
        IgnoreRules x = new IgnoreRules();
        append(x, "a/b");
        due("matches without rules", x.matches(FILE), 0);
        for (int i = 0; i < 12; i++) {
            add(x, "b", i % 2);
            due("matches of " + (i + 1), x.matches(FILE), i + 1);
        }
        IgnoreRules some = with("b", 0);
        add(some, "a", 0);
        add(some, "a/b", NEGATED);
        add(some, "b", ANCHORED);
        add(some, "#/b", FOLDERS_ONLY);
        append(some, "a/b");
        due("matches, a file", some.matches(FILE), 2);
        due("matches, a folder", some.matches(FOLDER), 3);
        IgnoreRules none = withRules(12);
        append(none, "f/a");
        due("matches, none of twelve", none.matches(FOLDER), 0);
    }

    private static void matchesOfNoPath() {
        for (int names = 1; names <= 6; names++) {
            for (boolean folder : BOTH) {
                IgnoreRules x = matchingAll();
                append(x, endingEmpty(names));
                due("matches, name " + names + " empty", x.matches(folder), 0);
            }
        }
    }

    private static void cutAtTheLeast() {
        for (int names = 1; names <= 6; names++) {
            String path = firstNames(names);
            for (int i = 1; i <= names; i++) {
                IgnoreRules x = with("abcdef".substring(i - 1, i), 0);
                add(x, "abcdef".substring(names - 1, names), 0);
                append(x, path);
                due("cutAt of " + path, x.cutAt(FILE), i);
            }
        }
        IgnoreRules back = with("*", 0);
        add(back, "a", NEGATED);
        add(back, "a/b", NEGATED);
        append(back, "a/b/c/d");
        due("cutAt behind two that are taken back", back.cutAt(FILE), 3);
    }

    private static void cutAtWithFolders() {
        for (int names = 1; names <= 6; names++) {
            for (int i = 1; i <= names; i++) {
                IgnoreRules x = with("abcdef".substring(i - 1, i), FOLDERS_ONLY);
                append(x, firstNames(names));
                due("cutAt, a folder", x.cutAt(FOLDER), i);
                due("cutAt, a file", x.cutAt(FILE), i < names ? i : NONE);
            }
        }
    }

    private static void cutAtNone() {
        due("cutAt without rules", at("a/b").cutAt(FILE), NONE);
        IgnoreRules x = with("c", 0);
        add(x, "a", NEGATED);
        append(x, "a/b/d/e/f/b");
        due("cutAt of what is not ignored", x.cutAt(FOLDER), NONE);
    }

    private static void cutAtOfNoPath() {
        for (int names = 1; names <= 6; names++) {
            for (boolean folder : BOTH) {
                IgnoreRules x = matchingAll();
                append(x, endingEmpty(names));
                due("cutAt, name " + names + " empty", x.cutAt(folder), NONE);
            }
        }
    }

    private static void rulesCounted() {
        for (int count = 0; count <= 12; count++) {
            due("rules", withRules(count).rules(), count);
        }
        IgnoreRules x = withRules(12);
        add(x, "a", 0);
        due("rules behind a rule too many", x.rules(), 12);
        add(x, "/", 0);
        due("rules behind a bad rule", x.rules(), 12);
        x.dropRule();
        due("rules behind dropRule", x.rules(), 11);
        IgnoreRules none = new IgnoreRules();
        none.dropRule();
        due("rules behind dropRule of none", none.rules(), 0);
        none.pattern(1);
        due("rules behind pattern alone", none.rules(), 0);
    }

    // ---- promise 12

    private static void patternBadCharBeforeFull() {
        IgnoreRules x = new IgnoreRules();
        type(x, "abcdefabcd");
        for (int c : NO_PATTERN_CHARS) {
            due("pattern(" + c + ") behind ten", x.pattern(c), BAD_CHAR);
        }
        due("pattern(1) behind ten", x.pattern(1), FULL);
    }

    private static void numbersGivenAnew() {
        for (int count = 1; count <= 12; count++) {
            IgnoreRules x = withRules(count);
            x.dropRule();
            due("the number anew", add(x, "a", 0), count - 1);
            walk(x, "a");
            due("lastMatch of the number", x.lastMatch(FILE), count - 1);
        }
        IgnoreRules x = withRules(12);
        for (int i = 0; i < 12; i++) {
            x.dropRule();
        }
        for (int i = 0; i < 12; i++) {
            due("the numbers from 0 anew", add(x, "a", 0), i);
        }
    }

    private static void nothingLeftOfTheRuleTakenAway() {
        IgnoreRules x = with("bc/#/*/d", NEGATED | ANCHORED | FOLDERS_ONLY);
        x.dropRule();
        due("the number anew", add(x, "a", 0), 0);
        dueCut(x, "b/a", FILE, 2);
        due("lastMatch of the new rule", x.lastMatch(FILE), 0);
        walk(x, "bc/a/d");
        due("the old characters", x.matches(FOLDER), 0);
    }

    private static void terms() {
        sentence("What it is", "An object is used for at most 512 calls after it has been made",
                BoundaryTest::holdsForAllCalls);
        sentence("Terms", "A PATH is a list of one to six NAMES", BoundaryTest::oneToSixNames);
        sentence("Terms", "a name is a list of one to eight letters 1 to 6", BoundaryTest::oneToEightLetters);
        sentence("Terms", "(folders, and last a folder or a file); a name is a list of one to eight letters",
                BoundaryTest::sixNamesOfEightLetters);
        sentence("Terms", "A RULE has up to ten PATTERN CHARACTERS", BoundaryTest::upToTenCharacters);
        sentence("Terms", "up to ten PATTERN CHARACTERS", BoundaryTest::twelveRulesOfTenCharacters);
        sentence("Terms", "1 to 6 that letter", BoundaryTest::thatLetter);
        sentence("Terms", "STAR: any letters within one name, also none", BoundaryTest::starStandsForNone);
        sentence("Terms", "STAR: any letters", BoundaryTest::starStandsForAny);
        sentence("Terms", "STAR: any letters within one name", BoundaryTest::starStaysWithinOneName);
        sentence("Terms", "QUERY: exactly one letter", BoundaryTest::queryIsOneLetter);
        sentence("Terms", "SLASH: goes from one name to the next", BoundaryTest::slashGoesToTheNextName);
        sentence("Terms", "TWO STARS: any number of whole names, also none", BoundaryTest::twoStarsStandForNone);
        sentence("Terms", "TWO STARS: any number", BoundaryTest::twoStarsStandForAny);
        sentence("Terms", "TWO STARS: any number of whole names", BoundaryTest::twoStarsStandForWholeNames);
        sentence("Terms", "it is WELL PLACED only if it is the first character or comes right behind a SLASH",
                BoundaryTest::twoStarsFirstOrBehindSlash);
        sentence("Terms", "and is followed by a SLASH or is the last character",
                BoundaryTest::twoStarsLastOrBeforeSlash);
        sentence("Terms", "a rule is GOOD if it has at least one character", BoundaryTest::atLeastOneCharacter);
        sentence("Terms", "it neither begins nor ends with a SLASH", BoundaryTest::neitherBeginsNorEndsWithSlash);
        sentence("Terms", "no two slashes stand together", BoundaryTest::noTwoSlashesTogether);
        sentence("Terms", "every TWO STARS is well placed (so it is a part of its own)",
                BoundaryTest::everyTwoStarsWellPlaced);
        sentence("Terms", "each letter of the part stands for itself, each QUERY for one letter",
                BoundaryTest::lettersOfThePartInOrder);
        sentence("Terms", "each STAR for any number of letters", BoundaryTest::eachStarForItself);
        sentence("Terms", "the names can be cut, in order and without rest", BoundaryTest::namesWithoutRest);
        sentence("Terms", "each TWO STARS stands for any number of names (also none)",
                BoundaryTest::eachTwoStarsForItself);
        sentence("Terms", "every other part for one name that it fits", BoundaryTest::otherPartsStandForOneName);
        sentence("Terms", "its FOLDERS ONLY mark is not set or the path is a folder", BoundaryTest::foldersOnly);
        sentence("Terms", "its parts fit all names of the path, if the rule is anchored or has more than one part",
                BoundaryTest::allNamesIfAnchoredOrMoreParts);
        sentence("Terms", "else (one part, not anchored) its part fits the path's last name",
                BoundaryTest::elseTheLastName);
        sentence("Terms", "TWO STARS fitting any name", BoundaryTest::twoStarsAloneFitAnyName);
        sentence("Terms", "each of them but the whole path being a folder", BoundaryTest::beginningsAreFolders);
        sentence("Terms", "If one of these, in this order, is ignored, the path is ignored.",
                BoundaryTest::ignoredWithItsBeginning);
        sentence("Terms", "the last rule, in the order in which they were added, that matches it is not negated",
                BoundaryTest::lastRuleDecides);
        sentence("Terms", "not if that rule is negated or no rule matches it", BoundaryTest::notIfNegatedOrNone);
        sentence("Terms", "The calls below change nothing.", BoundaryTest::questionsChangeNothing);
        sentence("Terms", "A path buffer whose last name is empty (so also the empty buffer) is no path.",
                BoundaryTest::emptyLastNameIsNoPath);
        sentence("Terms", "so also the empty buffer", BoundaryTest::emptyBufferIsNoPath);
    }

    private static void promisesOneToFour() {
        sentence("Promise 1", "No rules", BoundaryTest::newHasNoRules);
        sentence("Promise 1", "the pattern buffer and the path buffer are empty", BoundaryTest::newHasEmptyBuffers);
        sentence("Promise 2", "c not in 1 to 10: BAD_CHAR", BoundaryTest::patternOutsideOneToTen);
        sentence("Promise 2", "the buffer has ten: FULL", BoundaryTest::patternFull);
        sentence("Promise 2", "nothing changes then", BoundaryTest::refusedPatternChangesNothing);
        sentence("Promise 2", "Else answers how many it has", BoundaryTest::patternAnswersHowMany);
        sentence("Promise 3", "marks bit 0 NEGATED, bit 1 ANCHORED, bit 2 FOLDERS ONLY", BoundaryTest::marksByBits);
        sentence("Promise 3", "other bits are not looked at", BoundaryTest::otherBitsNotLookedAt);
        sentence("Promise 3", "the pattern is not good: BAD_RULE", BoundaryTest::ruleNotGood);
        sentence("Promise 3", "there are twelve rules: FULL", BoundaryTest::ruleFull);
        sentence("Promise 3", "Tests in this order: the pattern is not good: BAD_RULE; there are twelve rules: FULL",
                BoundaryTest::badRuleBeforeFull);
        sentence("Promise 3", "In all cases the pattern buffer is empty afterwards",
                BoundaryTest::patternBufferEmptyAfterRule);
        sentence("Promise 3", "else a refused call changes nothing", BoundaryTest::refusedRuleChangesNothing);
        sentence("Promise 3", "Else the rule gets the next number, from 0, which the call answers.",
                BoundaryTest::rulesNumberedFromZero);
        sentence("Promise 4", "Takes the last rule away.", BoundaryTest::dropTakesTheLast);
        sentence("Promise 4", "There is none: NONE.", BoundaryTest::dropWithoutRules);
        sentence("Promise 4", "Else answers how many are left.", BoundaryTest::dropAnswersHowManyAreLeft);
    }

    private static void promisesFiveAndSix() {
        sentence("Promise 5", "Appends a letter 1 to 6 to the last name of the path buffer, or 9 to begin a new name.",
                BoundaryTest::pathAppendsToTheLastName);
        sentence("Promise 5", "c not in 1 to 6 and not 9: BAD_CHAR", BoundaryTest::pathOutsideLettersAndSlash);
        sentence("Promise 5", "c is 9 and the last name is empty", BoundaryTest::slashBehindAnEmptyName);
        sentence("Promise 5", "c is 9 and there are six names: BAD_PATH", BoundaryTest::slashBehindSixNames);
        sentence("Promise 5", "c is a letter and the last name has eight: FULL", BoundaryTest::letterBehindEight);
        sentence("Promise 5", "Tests in this order: c not in 1 to 6 and not 9: BAD_CHAR",
                BoundaryTest::badCharBeforeBadPathAndFull);
        sentence("Promise 5", "there are six names: BAD_PATH; c is a letter and the last name has eight: FULL",
                BoundaryTest::badPathAndFullApart);
        sentence("Promise 5", "A refused call changes nothing.", BoundaryTest::refusedPathChangesNothing);
        sentence("Promise 5", "The empty buffer counts as one empty name.", BoundaryTest::emptyBufferIsOneEmptyName);
        sentence("Promise 5", "Else answers how many names there are (the last one may be empty).",
                BoundaryTest::pathAnswersHowManyNames);
        sentence("Promise 6", "Empties the path buffer.", BoundaryTest::clearPathEmpties);
        sentence("Promise 6", "the path buffer", BoundaryTest::clearPathLeavesTheRest);
    }

    private static void promisesSevenToTwelve() {
        sentence("Promise 7", "the path itself being a folder or a file", BoundaryTest::ignoredAsFolderOrFile);
        sentence("Promise 7", "False if the buffer is no path.", BoundaryTest::ignoredOfNoPath);
        sentence("Promise 8", "The number of the last rule that matches the path as a whole",
                BoundaryTest::lastMatchOfTheWholePath);
        sentence("Promise 8", "NONE if no rule does", BoundaryTest::lastMatchOfNone);
        sentence("Promise 8", "or the buffer is no path", BoundaryTest::lastMatchOfNoPath);
        sentence("Promise 9", "How many rules match the path as a whole", BoundaryTest::matchesOfTheWholePath);
        sentence("Promise 9", "0 if the buffer is no path", BoundaryTest::matchesOfNoPath);
        sentence("Promise 10", "The least number n of names such that the beginning of n names is itself ignored",
                BoundaryTest::cutAtTheLeast);
        sentence("Promise 10", "those shorter than the whole path being folders and the whole one as given",
                BoundaryTest::cutAtWithFolders);
        sentence("Promise 10", "NONE if there is none", BoundaryTest::cutAtNone);
        sentence("Promise 10", "or the buffer is no path", BoundaryTest::cutAtOfNoPath);
        sentence("Promise 11", "How many rules there are.", BoundaryTest::rulesCounted);
        sentence("Promise 12", "pattern: BAD_CHAR is tested before FULL.", BoundaryTest::patternBadCharBeforeFull);
        sentence("Promise 12", "the number of a rule is how many rules there were before the call",
                BoundaryTest::numbersGivenAnew);
        sentence("Promise 12", "so the number of a rule that was taken away is given anew",
                BoundaryTest::nothingLeftOfTheRuleTakenAway);
    }

    public static void main(String[] args) {
        terms();
        promisesOneToFour();
        promisesFiveAndSix();
        promisesSevenToTwelve();
        System.out.println(wrong == 0 ? "all answers are as due" : wrong + " answers are not as due");
        if (wrong != 0) {
            System.exit(1);
        }
    }
}
