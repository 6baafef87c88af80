/** Statements of three parts, and all ways to fill a pattern of statements with open places. */
public final class TripleJoins {
    private static final int STATEMENT_NUMBERS = 256;
    private static final int MOST_STATEMENTS = 48;
    private static final int GREATEST_LINK = 3;

    private static final int VARIABLES = 4;
    private static final int ALL_VARIABLES = 15;
    private static final int FIRST_VARIABLE_ENTRY = 8;
    private static final int ENTRIES = 12;

    private static final int PATTERN_NUMBERS = 1728;
    private static final int SUBJECT_WEIGHT = 144;
    private static final int LINK_WEIGHT = 12;
    private static final int NO_PATTERN = -1;

    private static final int MOST_NEEDED = 4;
    private static final int MOST_CONDITIONS = 3;
    private static final int KINDS = 3;
    private static final int KIND_SAME = 0;
    private static final int KIND_DIFFERENT = 1;

    private static final int OPEN = 8;
    private static final int DIGITS = 9;
    private static final int DIGIT_PAIRS = 81;
    private static final int CODES = 6561;
    private static final int ALL_OPEN_CODE = 6560;

    /** Stands where the number of a statement to leave out is asked, when the whole set counts. */
    private static final int NONE = -1;

    private final boolean[] present = new boolean[STATEMENT_NUMBERS];
    private int presentCount;

    private final int[] needed = new int[MOST_NEEDED];
    private int neededCount;
    private int extraPattern;
    private final int[] kinds = new int[MOST_CONDITIONS];
    private final int[] firsts = new int[MOST_CONDITIONS];
    private final int[] seconds = new int[MOST_CONDITIONS];
    private int conditionCount;

    // Sets of variables, bit v for variable v. They follow from the query, and are kept
    // because every one of the 6561 codes is held against them in a question.
    private int neededVariables;
    private int extraVariables;

    // Of use only while pairs runs.
    private final boolean[] pairSeen = new boolean[DIGIT_PAIRS];

    public TripleJoins() {
        presentCount = 0;
        neededCount = 0;
        extraPattern = NO_PATTERN;
        conditionCount = 0;
        neededVariables = 0;
        extraVariables = 0;
    }

    public int state(int statement) {
        if (!isStatement(statement)) {
            return -1;
        }
        if (present[statement]) {
            return 0;
        }
        if (presentCount >= MOST_STATEMENTS) {
            return -2;
        }
        putIn(statement);
        return 1;
    }

    public int sow(int seed, int step, int count) {
        if (!isStatement(seed)) {
            return -1;
        }
        if (step < 0 || step >= STATEMENT_NUMBERS) {
            return -2;
        }
        if (count < 1 || count > MOST_STATEMENTS) {
            return -3;
        }
        for (int k = 0; k < count; k++) {
            int statement = (seed + k * step) % STATEMENT_NUMBERS;
            putIn(statement);
        }
        return presentCount;
    }

    public int retract(int statement) {
        if (!isStatement(statement)) {
            return -1;
        }
        if (!present[statement]) {
            return -2;
        }
        present[statement] = false;
        presentCount--;
        return presentCount;
    }

    public int need(int pattern) {
        if (!isPattern(pattern)) {
            return -1;
        }
        if (neededCount >= MOST_NEEDED) {
            return -2;
        }
        needed[neededCount] = pattern;
        neededCount++;
        noteNeededVariables();
        return neededCount;
    }

    public int extra(int pattern) {
        if (!isPattern(pattern)) {
            return -1;
        }
        int before = extraPattern == NO_PATTERN ? 0 : 1;
        extraPattern = pattern;
        extraVariables = variablesOf(pattern);
        return before;
    }

    public int condition(int kind, int first, int second) {
        if (kind < 0 || kind >= KINDS) {
            return -1;
        }
        if (!isEntry(first) || !isEntry(second)) {
            return -2;
        }
        if (conditionCount >= MOST_CONDITIONS) {
            return -3;
        }
        kinds[conditionCount] = kind;
        firsts[conditionCount] = first;
        seconds[conditionCount] = second;
        conditionCount++;
        return conditionCount;
    }

    public int drop() {
        if (neededCount == 0) {
            return -1;
        }
        neededCount--;
        noteNeededVariables();
        return neededCount;
    }

    public int clear() {
        int before = neededCount;
        neededCount = 0;
        neededVariables = 0;
        extraPattern = NO_PATTERN;
        extraVariables = 0;
        conditionCount = 0;
        return before;
    }

    public int statements() {
        return presentCount;
    }

    public int matching(int pattern) {
        if (!isPattern(pattern)) {
            return -1;
        }
        int count = 0;
        for (int statement = 0; statement < STATEMENT_NUMBERS; statement++) {
            if (present[statement] && fits(statement, pattern, ALL_OPEN_CODE)) {
                count++;
            }
        }
        return count;
    }

    public int solutions() {
        return countSolutions(NONE);
    }

    public int next(int after) {
        // after + 1 would wrap around at the greatest int.
        if (after >= CODES) {
            return -1;
        }
        int from = after < 0 ? 0 : after + 1;
        for (int code = from; code < CODES; code++) {
            if (solves(code, NONE)) {
                return code;
            }
        }
        return -1;
    }

    public int isSolution(int code) {
        if (code < 0 || code >= CODES) {
            return -1;
        }
        return solves(code, NONE) ? 1 : 0;
    }

    public int values(int v) {
        if (!isVariable(v)) {
            return -1;
        }
        int set = 0;
        for (int code = 0; code < CODES; code++) {
            if (solves(code, NONE)) {
                set |= 1 << given(FIRST_VARIABLE_ENTRY + v, code);
            }
        }
        return set;
    }

    public int having(int v, int value) {
        if (!isVariable(v)) {
            return -1;
        }
        if (value < 0 || value > OPEN) {
            return -2;
        }
        int count = 0;
        for (int code = 0; code < CODES; code++) {
            if (given(FIRST_VARIABLE_ENTRY + v, code) == value && solves(code, NONE)) {
                count++;
            }
        }
        return count;
    }

    public int pairs(int v, int w) {
        if (!isVariable(v) || !isVariable(w)) {
            return -1;
        }
        forgetPairs();
        int count = 0;
        for (int code = 0; code < CODES; code++) {
            int had = given(FIRST_VARIABLE_ENTRY + v, code);
            int hadBeside = given(FIRST_VARIABLE_ENTRY + w, code);
            int pair = DIGITS * had + hadBeside;
            if (!pairSeen[pair] && solves(code, NONE)) {
                pairSeen[pair] = true;
                count++;
            }
        }
        return count;
    }

    public int vital() {
        int all = countSolutions(NONE);
        int count = 0;
        for (int statement = 0; statement < STATEMENT_NUMBERS; statement++) {
            if (present[statement] && countSolutions(statement) < all) {
                count++;
            }
        }
        return count;
    }

    private static boolean isStatement(int number) {
        return number >= 0 && number < STATEMENT_NUMBERS;
    }

    private static boolean isPattern(int number) {
        return number >= 0 && number < PATTERN_NUMBERS;
    }

    private static boolean isVariable(int number) {
        return number >= 0 && number < VARIABLES;
    }

    private static boolean isEntry(int number) {
        return number >= 0 && number < ENTRIES;
    }

    private static int subjectEntry(int pattern) {
        return pattern / SUBJECT_WEIGHT;
    }

    private static int linkEntry(int pattern) {
        return pattern / LINK_WEIGHT % ENTRIES;
    }

    private static int objectEntry(int pattern) {
        return pattern % ENTRIES;
    }

    /** The statement must be a good one; a new one finds no place in a full set. */
    private void putIn(int statement) {
        if (!present[statement] && presentCount < MOST_STATEMENTS) {
            present[statement] = true;
            presentCount++;
        }
    }

    private void noteNeededVariables() {
        neededVariables = 0;
        for (int i = 0; i < neededCount; i++) {
            neededVariables |= variablesOf(needed[i]);
        }
    }

    private static int variablesOf(int pattern) {
        int subjectEntry = subjectEntry(pattern);
        int linkEntry = linkEntry(pattern);
        int objectEntry = objectEntry(pattern);
        return variableOf(subjectEntry) | variableOf(linkEntry) | variableOf(objectEntry);
    }

    private static int variableOf(int entry) {
        return entry < FIRST_VARIABLE_ENTRY ? 0 : 1 << (entry - FIRST_VARIABLE_ENTRY);
    }

    private void forgetPairs() {
        for (int pair = 0; pair < DIGIT_PAIRS; pair++) {
            pairSeen[pair] = false;
        }
    }

    private int countSolutions(int without) {
        int count = 0;
        for (int code = 0; code < CODES; code++) {
            if (solves(code, without)) {
                count++;
            }
        }
        return count;
    }

    /** Is the filling a solution when the statement "without" is left out of the set? */
    private boolean solves(int code, int without) {
        int open = openVariables(code);
        int openInBase = ALL_VARIABLES & ~neededVariables;
        int openInReplaced = openInBase & ~extraVariables;
        if (open != openInBase && open != openInReplaced) {
            return false;
        }
        if (!neededHold(code, without) || !conditionsKept(code)) {
            return false;
        }
        if (openInBase == openInReplaced) {
            // The extra pattern has no variables of its own: whether it holds or not,
            // the base filling is what comes of it.
            return true;
        }
        if (open == openInReplaced) {
            return holds(extraPattern, code, without);
        }
        return !anyFits(extraPattern, code, without);
    }

    private static int openVariables(int code) {
        int open = 0;
        for (int v = 0; v < VARIABLES; v++) {
            if (given(FIRST_VARIABLE_ENTRY + v, code) == OPEN) {
                open |= 1 << v;
            }
        }
        return open;
    }

    private boolean neededHold(int code, int without) {
        for (int i = 0; i < neededCount; i++) {
            if (!holds(needed[i], code, without)) {
                return false;
            }
        }
        return true;
    }

    private boolean conditionsKept(int code) {
        for (int i = 0; i < conditionCount; i++) {
            int first = given(firsts[i], code);
            int second = given(seconds[i], code);
            if (!isKept(kinds[i], first, second)) {
                return false;
            }
        }
        return true;
    }

    private static boolean isKept(int kind, int first, int second) {
        if (first == OPEN || second == OPEN) {
            return false;
        }
        if (kind == KIND_SAME) {
            return first == second;
        }
        if (kind == KIND_DIFFERENT) {
            return first != second;
        }
        return first < second;
    }

    private boolean holds(int pattern, int code, int without) {
        int subjectEntry = subjectEntry(pattern);
        int linkEntry = linkEntry(pattern);
        int objectEntry = objectEntry(pattern);
        int subject = given(subjectEntry, code);
        int link = given(linkEntry, code);
        int object = given(objectEntry, code);
        if (subject >= OPEN || link > GREATEST_LINK || object >= OPEN) {
            return false;
        }
        int statement = 32 * subject + 8 * link + object;
        return statement != without && present[statement];
    }

    private boolean anyFits(int pattern, int code, int without) {
        for (int statement = 0; statement < STATEMENT_NUMBERS; statement++) {
            if (present[statement] && statement != without && fits(statement, pattern, code)) {
                return true;
            }
        }
        return false;
    }

    /** Can the pattern become the statement once the variables that the filling leaves open get values? */
    private static boolean fits(int statement, int pattern, int code) {
        int subject = statement / 32;
        int link = statement / 8 % 4;
        int object = statement % 8;
        int subjectEntry = subjectEntry(pattern);
        int linkEntry = linkEntry(pattern);
        int objectEntry = objectEntry(pattern);
        // An open variable that stands in two places must get one value for both.
        if (subjectEntry == linkEntry && subject != link) {
            return false;
        }
        if (subjectEntry == objectEntry && subject != object) {
            return false;
        }
        if (linkEntry == objectEntry && link != object) {
            return false;
        }
        int subjectGiven = given(subjectEntry, code);
        int linkGiven = given(linkEntry, code);
        int objectGiven = given(objectEntry, code);
        return allows(subjectGiven, subject) && allows(linkGiven, link) && allows(objectGiven, object);
    }

    private static boolean allows(int given, int value) {
        return given == OPEN || given == value;
    }

    /** What an entry stands for under a filling: the entry itself if it is a value, else its variable's digit. */
    private static int given(int entry, int code) {
        switch (entry) {
            case 8:
                return code / 729;
            case 9:
                return code / 81 % DIGITS;
            case 10:
                return code / 9 % DIGITS;
            case 11:
                return code % DIGITS;
            default:
                return entry;
        }
    }
}
