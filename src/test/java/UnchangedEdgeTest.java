import java.util.Arrays;

/**
 * "No question changes anything. A refused call changes nothing. In every method the tests are made in the order
 * named".
 */
public final class UnchangedEdgeTest {
    private static final Due due = new Due("UnchangedEdgeTest");

    private static final String[] EMPTY = {};
    private static final String[] ORDINARY = {"state 1.0.2", "state 2.0.3", "state 3.0.3", "state 3.1.6", "state 3.1.7",
        "state 0.0.0", "need A.0.B", "need B.0.C", "extra C.1.D", "condition 1 A 0", "condition 2 A C"};
    /** Nothing more finds a place in the set or in the query. */
    private static final String[] FULL = {"sow 0 1 48", "need 0.0.A", "need A.1.B", "need 1.1.A", "need 0.1.C",
        "extra 1.0.D", "condition 1 A 0", "condition 2 B 6", "condition 1 C D"};

    private static final String[] QUESTIONS = {"statements", "matching A.B.C", "matching 0", "matching 1727",
        "matching -1", "matching 1728", "solutions", "next -1", "next least", "next greatest", "next 6560",
        "isSolution 0", "isSolution 6560", "isSolution -1", "isSolution 6561", "values 0", "values 3", "values -1",
        "values 4", "having 0 1", "having 3 8", "having -1 0", "having 4 9", "having 0 -1", "having 3 9",
        "pairs 0 1", "pairs 3 3", "pairs -1 0", "pairs 0 4", "vital"};

    public static void main(String[] args) {
        noQuestionChangesAnything();
        notGoodIsRefusedAndChangesNothing();
        emptyRefusesAndStays();
        ordinaryRefusesAndStays();
        fullRefusesAndStays();
        notRefusedDoesChange();
        orderInState();
        orderInSow();
        orderInRetract();
        orderInNeed();
        orderInCondition();
        orderInHaving();
        all512Calls();
        due.end();
    }

    private static Calls on(String... first) {
        return new Calls(due, first);
    }

    private static String[] with(String[] calls, String... more) {
        String[] all = Arrays.copyOf(calls, calls.length + more.length);
        System.arraycopy(more, 0, all, calls.length, more.length);
        return all;
    }

    /** "No question changes anything.": neither what is seen afterwards nor its own second answer. */
    private static void noQuestionChangesAnything() {
        String[][] states = {EMPTY, ORDINARY, FULL};
        for (String[] state : states) {
            String before = Seen.after(state);
            for (String question : QUESTIONS) {
                int first = on(state).answer(question);
                on(with(state, question)).is(question, first);
                due.holds(question + " changes nothing after " + Arrays.toString(state),
                    Seen.after(with(state, question)).equals(before));
            }
        }
    }

    /** The call is refused with this answer, and nothing is otherwise afterwards. */
    private static void refused(String[] state, String before, String call, int want) {
        on(state).is(call, want);
        due.holds(call + " changes nothing after " + Arrays.toString(state),
            Seen.after(with(state, call)).equals(before));
    }

    /** "A refused call changes nothing.": each number that is not good or outside, in each state. */
    private static void notGoodIsRefusedAndChangesNothing() {
        String[][] states = {EMPTY, ORDINARY, FULL};
        String[] minusOne = {"state -1", "state 256", "sow -1 1 1", "sow 256 1 1", "retract -1", "retract 256",
            "need -1", "need 1728", "extra -1", "extra 1728", "condition -1 0 0", "condition 3 0 0"};
        String[] minusTwo = {"sow 100 -1 1", "sow 100 256 1", "condition 0 -1 0", "condition 0 12 0",
            "condition 0 0 -1", "condition 0 0 12"};
        String[] minusThree = {"sow 100 1 0", "sow 100 1 49"};
        for (String[] state : states) {
            String before = Seen.after(state);
            for (String call : minusOne) {
                refused(state, before, call, -1);
            }
            for (String call : minusTwo) {
                refused(state, before, call, -2);
            }
            for (String call : minusThree) {
                refused(state, before, call, -3);
            }
        }
    }

    private static void emptyRefusesAndStays() {
        String before = Seen.after(EMPTY);
        refused(EMPTY, before, "retract 0", -2);
        refused(EMPTY, before, "retract 255", -2);
        refused(EMPTY, before, "drop", -1);
    }

    private static void ordinaryRefusesAndStays() {
        String before = Seen.after(ORDINARY);
        refused(ORDINARY, before, "retract 1.0.3", -2);
        refused(ORDINARY, before, "state 1.0.2", 0);
    }

    private static void fullRefusesAndStays() {
        String before = Seen.after(FULL);
        refused(FULL, before, "state 48", -2);
        refused(FULL, before, "state 255", -2);
        refused(FULL, before, "state 47", 0);
        refused(FULL, before, "sow 100 1 48", 48);
        refused(FULL, before, "retract 48", -2);
        refused(FULL, before, "need 0", -2);
        refused(FULL, before, "condition 1 0 0", -3);
    }

    /** That Seen sees what changes: without this the tests above might hold for nothing. */
    private static void notRefusedDoesChange() {
        String[] changes = {"state 7.3.7", "sow 7.3.7 0 1", "retract 0.0.0", "need 7.3.7", "extra 0", "condition 0 0 0",
            "drop", "clear"};
        String before = Seen.after(ORDINARY);
        for (String call : changes) {
            due.holds(call + " is seen", !Seen.after(with(ORDINARY, call)).equals(before));
        }
        due.holds("an extra pattern is seen", !Seen.after("extra 0").equals(Seen.after(EMPTY)));
        due.holds("a condition is seen", !Seen.after("condition 0 0 0").equals(Seen.after(EMPTY)));
    }

    /** state: not good goes before full, and what is there is not refused when the set is full. */
    private static void orderInState() {
        on(FULL).is("state -1", -1).is("state 256", -1).is("state 48", -2).is("state 47", 0);
        on().is("state -1", -1).is("state 256", -1).is("state 48", 1).is("state 48", 0);
    }

    /** sow: seed, step, count, in all ways to be right or wrong, with a full set and without. */
    private static void orderInSow() {
        String[] seeds = {"0", "-1", "256"};
        String[] steps = {"1", "-1", "256"};
        String[] counts = {"48", "0", "49"};
        for (int i = 0; i < 27; i++) {
            int seed = i / 9;
            int step = i / 3 % 3;
            int count = i % 3;
            int want = seed > 0 ? -1 : step > 0 ? -2 : count > 0 ? -3 : 48;
            String call = "sow " + seeds[seed] + " " + steps[step] + " " + counts[count];
            on().is(call, want).is("statements", want == 48 ? 48 : 0);
            on(FULL).is(call, want).is("statements", 48);
        }
    }

    /** retract: not good goes before not in the set, which a number that is not good never is. */
    private static void orderInRetract() {
        on().is("retract -1", -1).is("retract 256", -1).is("retract 0", -2).is("retract 255", -2);
        on(FULL).is("retract -1", -1).is("retract 256", -1).is("retract 48", -2).is("retract 47", 47);
    }

    /** need: not good goes before full. */
    private static void orderInNeed() {
        on(FULL).is("need -1", -1).is("need 1728", -1).is("need 1727", -2).is("need 0", -2)
            .is("drop", 3).is("need 1728", -1).is("need 1727", 4).is("need 1728", -1).is("need 1727", -2);
    }

    /** condition: kind, operands, full, in all ways to be right or wrong. */
    private static void orderInCondition() {
        String[] kinds = {"0", "-1", "3"};
        String[] operands = {"0", "-1", "12"};
        for (int i = 0; i < 27; i++) {
            int kind = i / 9;
            int first = i / 3 % 3;
            int second = i % 3;
            boolean outside = first > 0 || second > 0;
            String call = "condition " + kinds[kind] + " " + operands[first] + " " + operands[second];
            on().is(call, kind > 0 ? -1 : outside ? -2 : 1);
            on(FULL).is(call, kind > 0 ? -1 : outside ? -2 : -3);
        }
    }

    /** having: variable, then value. */
    private static void orderInHaving() {
        String[] variables = {"0", "-1", "4"};
        String[] values = {"8", "-1", "9"};
        for (int i = 0; i < 9; i++) {
            int v = i / 3;
            int value = i % 3;
            on().is("having " + variables[v] + " " + values[value], v > 0 ? -1 : value > 0 ? -2 : 1);
        }
    }

    /** "An object is used for at most 512 calls": the last of them is answered like the first. */
    private static void all512Calls() {
        Calls x = on(FULL);
        int used = FULL.length;
        int vital = on(FULL).answer("vital");
        int solutions = on(FULL).answer("solutions");
        for (; used + 4 < 512; used += 4) {
            x.is("vital", vital).is("retract 255", -2).is("need 0", -2).is("solutions", solutions);
        }
        for (; used < 511; used++) {
            x.is("statements", 48);
        }
        x.is("vital", vital);
    }
}
