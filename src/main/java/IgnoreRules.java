/** Ignore rules for paths, as version control and backup programs have them. */
public final class IgnoreRules {
    public static final int BAD_CHAR = -1;
    public static final int FULL = -2;
    public static final int BAD_RULE = -3;
    public static final int BAD_PATH = -4;
    public static final int NONE = -5;

    private static final int LAST_LETTER = 6;
    private static final int STAR = 7;
    private static final int QUERY = 8;
    private static final int SLASH = 9;
    private static final int TWO_STARS = 10;

    private static final int NEGATED = 1;
    private static final int ANCHORED = 2;
    private static final int FOLDERS_ONLY = 4;

    private static final int MAX_RULES = 12;
    private static final int MAX_PATTERN = 10;
    private static final int MAX_NAMES = 6;
    private static final int MAX_LETTERS = 8;
    private static final int ALL_PATTERNS = MAX_RULES * MAX_PATTERN;
    private static final int ALL_LETTERS = MAX_NAMES * MAX_LETTERS;

    private final int[] buffer = new int[MAX_PATTERN];
    private int bufferLength;

    // Rule r has its characters from r * MAX_PATTERN on.
    private final int[] ruleChars = new int[ALL_PATTERNS];
    private final int[] ruleLengths = new int[MAX_RULES];
    private final int[] ruleMarks = new int[MAX_RULES];
    private int ruleCount;

    // Name n has its letters from n * MAX_LETTERS on.
    private final int[] letters = new int[ALL_LETTERS];
    private final int[] nameLengths = new int[MAX_NAMES];
    private int nameCount;

    public IgnoreRules() {
        bufferLength = 0;
        ruleCount = 0;
        // The empty path buffer counts as one empty name.
        nameCount = 1;
    }

    public int pattern(int c) {
        if (c < 1 || c > TWO_STARS) {
            return BAD_CHAR;
        }
        if (bufferLength >= MAX_PATTERN) {
            return FULL;
        }
        buffer[bufferLength] = c;
        bufferLength++;
        return bufferLength;
    }

    public int rule(int marks) {
        boolean good = isBufferGood();
        int length = bufferLength;
        // Emptied ahead of the tests, since a refused call empties it too.
        bufferLength = 0;
        if (!good) {
            return BAD_RULE;
        }
        if (ruleCount >= MAX_RULES) {
            return FULL;
        }
        int number = ruleCount;
        for (int i = 0; i < length; i++) {
            ruleChars[number * MAX_PATTERN + i] = buffer[i];
        }
        ruleLengths[number] = length;
        ruleMarks[number] = marks;
        ruleCount++;
        return number;
    }

    public int dropRule() {
        if (ruleCount == 0) {
            return NONE;
        }
        ruleCount--;
        return ruleCount;
    }

    public int path(int c) {
        boolean letter = c >= 1 && c <= LAST_LETTER;
        if (!letter && c != SLASH) {
            return BAD_CHAR;
        }
        int last = nameCount - 1;
        int length = nameLengths[last];
        if (!letter) {
            if (length == 0 || nameCount >= MAX_NAMES) {
                return BAD_PATH;
            }
            nameLengths[nameCount] = 0;
            nameCount++;
            return nameCount;
        }
        if (length >= MAX_LETTERS) {
            return FULL;
        }
        letters[last * MAX_LETTERS + length] = c;
        nameLengths[last] = length + 1;
        return nameCount;
    }

    public void clearPath() {
        nameCount = 1;
        nameLengths[0] = 0;
    }

    public boolean ignored(boolean folder) {
        return leastIgnored(folder) != NONE;
    }

    public int lastMatch(boolean folder) {
        if (!isPath()) {
            return NONE;
        }
        return lastMatching(nameCount, folder);
    }

    public int matches(boolean folder) {
        if (!isPath()) {
            return 0;
        }
        int count = 0;
        for (int r = 0; r < ruleCount; r++) {
            if (ruleMatches(r, nameCount, folder)) {
                count++;
            }
        }
        return count;
    }

    public int cutAt(boolean folder) {
        return leastIgnored(folder);
    }

    public int rules() {
        return ruleCount;
    }

    private boolean isBufferGood() {
        for (int i = 0; i < bufferLength; i++) {
            // Outside the pattern a SLASH is taken to stand, so that its two ends are the ends of parts.
            int before = i > 0 ? buffer[i - 1] : SLASH;
            int behind = i < bufferLength - 1 ? buffer[i + 1] : SLASH;
            if (buffer[i] == SLASH && (before == SLASH || behind == SLASH)) {
                return false;
            }
            if (buffer[i] == TWO_STARS && (before != SLASH || behind != SLASH)) {
                return false;
            }
        }
        return bufferLength > 0;
    }

    private boolean isPath() {
        return nameLengths[nameCount - 1] > 0;
    }

    /** The least number of names whose beginning is itself ignored, or NONE. */
    private int leastIgnored(boolean folder) {
        if (!isPath()) {
            return NONE;
        }
        for (int n = 1; n <= nameCount; n++) {
            // What has more names behind it can only be a folder.
            int last = lastMatching(n, folder || n < nameCount);
            if (last != NONE && (ruleMarks[last] & NEGATED) == 0) {
                return n;
            }
        }
        return NONE;
    }

    /** The last rule that matches the beginning of so many names, or NONE. */
    private int lastMatching(int names, boolean folder) {
        for (int r = ruleCount - 1; r >= 0; r--) {
            if (ruleMatches(r, names, folder)) {
                return r;
            }
        }
        return NONE;
    }

    private boolean ruleMatches(int r, int names, boolean folder) {
        if ((ruleMarks[r] & FOLDERS_ONLY) != 0 && !folder) {
            return false;
        }
        if ((ruleMarks[r] & ANCHORED) != 0 || hasSlash(r)) {
            return partsFit(r, names);
        }
        int from = r * MAX_PATTERN;
        // In a good rule of one part, TWO STARS at the front is all there is.
        if (ruleChars[from] == TWO_STARS) {
            return true;
        }
        return partFits(from, from + ruleLengths[r], names - 1);
    }

    private boolean hasSlash(int r) {
        int from = r * MAX_PATTERN;
        int to = from + ruleLengths[r];
        for (int i = from; i < to; i++) {
            if (ruleChars[i] == SLASH) {
                return true;
            }
        }
        return false;
    }

    /** Whether all parts of the rule fit the first so many names. */
    private boolean partsFit(int r, int names) {
        int start = r * MAX_PATTERN;
        int end = start + ruleLengths[r];
        // Bit n is set if the parts so far can stand for just the first n names.
        int reached = 1;
        for (int i = start; i <= end; i++) {
            // The end is asked first: behind the last rule there is no character to look at.
            if (i < end && ruleChars[i] != SLASH) {
                continue;
            }
            if (ruleChars[start] == TWO_STARS) {
                // Sets every bit above the lowest one; those above the names are never looked at.
                reached |= -reached;
            } else {
                int next = 0;
                for (int n = 0; n < names; n++) {
                    if ((reached >> n & 1) != 0 && partFits(start, i, n)) {
                        next |= 1 << (n + 1);
                    }
                }
                reached = next;
            }
            start = i + 1;
        }
        return (reached >> names & 1) != 0;
    }

    /** Whether the part with the characters from start up to, not with, end fits the name. */
    private boolean partFits(int start, int end, int name) {
        int first = name * MAX_LETTERS;
        int length = nameLengths[name];
        // Bit k is set if the characters so far can stand for just the first k letters.
        int reached = 1;
        for (int i = start; i < end; i++) {
            int c = ruleChars[i];
            if (c == STAR) {
                // Sets every bit above the lowest one; those above the length are never looked at.
                reached |= -reached;
                continue;
            }
            int next = 0;
            for (int k = 0; k < length; k++) {
                if ((reached >> k & 1) != 0 && (c == QUERY || c == letters[first + k])) {
                    next |= 1 << (k + 1);
                }
            }
            reached = next;
        }
        return (reached >> length & 1) != 0;
    }
}
