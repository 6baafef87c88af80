/** Promises 5 to 9: the query, and what each of its parts asks. */
public final class QueryTest {
    private static final Due due = new Due("QueryTest");

    public static void main(String[] args) {
        need();
        needRefused();
        extra();
        condition();
        conditionRefused();
        drop();
        clear();
        due.end();
    }

    /** The links 0: 1 to 2, 2 to 3, 3 to 1, 3 to 3. */
    private static TripleJoins walks() {
        TripleJoins x = new TripleJoins();
        x.state(Numbers.statement(1, 0, 2));
        x.state(Numbers.statement(2, 0, 3));
        x.state(Numbers.statement(3, 0, 1));
        x.state(Numbers.statement(3, 0, 3));
        return x;
    }

    /** Promise 5. */
    private static void need() {
        TripleJoins x = walks();
        due.is("need(A 0 B)", x.need(Numbers.pattern(Numbers.A, 0, Numbers.B)), 1);
        due.is("solutions()", x.solutions(), 4);
        due.is("need(B 0 C)", x.need(Numbers.pattern(Numbers.B, 0, Numbers.C)), 2);
        due.is("solutions()", x.solutions(), 6);
        due.is("need(C 0 A)", x.need(Numbers.pattern(Numbers.C, 0, Numbers.A)), 3);
        due.is("solutions()", x.solutions(), 4);
        // The same pattern again counts as one more and asks nothing new.
        due.is("need(C 0 A) again", x.need(Numbers.pattern(Numbers.C, 0, Numbers.A)), 4);
        due.is("solutions()", x.solutions(), 4);
        due.is("need(0)", x.need(0), -2);
        due.is("need(1728)", x.need(1728), -1);
        due.is("solutions()", x.solutions(), 4);
    }

    /** Promise 5: wrong inputs. */
    private static void needRefused() {
        TripleJoins x = new TripleJoins();
        int[] bad = {-1, 1728, Integer.MIN_VALUE, Integer.MAX_VALUE};
        for (int pattern : bad) {
            due.is("need(" + pattern + ")", x.need(pattern), -1);
        }
        due.is("solutions()", x.solutions(), 1);
        due.is("need(1727)", x.need(1727), 1);
        due.is("need(0)", x.need(0), 2);
    }

    /** Promise 6. */
    private static void extra() {
        TripleJoins x = walks();
        due.is("need(A 0 3)", x.need(Numbers.pattern(Numbers.A, 0, 3)), 1);
        due.is("extra(-1)", x.extra(-1), -1);
        due.is("extra(1728)", x.extra(1728), -1);
        due.is("extra(least)", x.extra(Integer.MIN_VALUE), -1);
        due.is("extra(B 0 2)", x.extra(Numbers.pattern(Numbers.B, 0, 2)), 0);
        due.is("values(B)", x.values(1), 2);
        due.is("extra(1728)", x.extra(1728), -1);
        due.is("values(B)", x.values(1), 2);
        due.is("extra(A 0 C)", x.extra(Numbers.pattern(Numbers.A, 0, Numbers.C)), 1);
        due.is("values(B)", x.values(1), 256);
        due.is("values(C)", x.values(2), 2 + 8);
        due.is("solutions()", x.solutions(), 3);
        due.is("extra(0)", x.extra(0), 1);
        due.is("solutions()", x.solutions(), 2);
    }

    /** Promise 7. */
    private static void condition() {
        TripleJoins x = walks();
        x.need(Numbers.pattern(Numbers.A, 0, Numbers.B));
        due.is("condition(A same B)", x.condition(Numbers.SAME, Numbers.A, Numbers.B), 1);
        due.is("solutions()", x.solutions(), 1);
        due.is("next(-1)", x.next(-1), Numbers.code(3, 3, 8, 8));
        x.clear();
        x.need(Numbers.pattern(Numbers.A, 0, Numbers.B));
        due.is("condition(A less B)", x.condition(Numbers.LESS, Numbers.A, Numbers.B), 1);
        due.is("solutions()", x.solutions(), 2);
        due.is("next(-1)", x.next(-1), Numbers.code(1, 2, 8, 8));
        due.is("condition(A different 1)", x.condition(Numbers.DIFFERENT, Numbers.A, 1), 2);
        due.is("next(-1)", x.next(-1), Numbers.code(2, 3, 8, 8));
        due.is("solutions()", x.solutions(), 1);
        due.is("condition(3 same B)", x.condition(Numbers.SAME, 3, Numbers.B), 3);
        due.is("solutions()", x.solutions(), 1);
        due.is("condition(0 same 1)", x.condition(Numbers.SAME, 0, 1), -3);
        due.is("solutions()", x.solutions(), 1);
        x.clear();
        x.need(Numbers.pattern(Numbers.A, 0, Numbers.B));
        due.is("condition(different with open)", x.condition(Numbers.DIFFERENT, 0, Numbers.D), 1);
        due.is("solutions()", x.solutions(), 0);
        x.clear();
        x.condition(Numbers.SAME, Numbers.C, Numbers.C);
        due.is("solutions() with an open variable the same as itself", x.solutions(), 0);
        x.clear();
        x.condition(Numbers.LESS, 7, Numbers.C);
        due.is("solutions() with 7 less than an open variable", x.solutions(), 0);
        x.clear();
        x.condition(Numbers.LESS, 6, 7);
        x.condition(Numbers.DIFFERENT, 6, 7);
        due.is("solutions() with conditions of values alone", x.solutions(), 1);
        x.condition(Numbers.DIFFERENT, 7, 7);
        due.is("solutions() with 7 different from 7", x.solutions(), 0);
    }

    /** Promise 7: wrong inputs, in the order of the tests. */
    private static void conditionRefused() {
        TripleJoins x = new TripleJoins();
        due.is("condition(-1, 12, 12)", x.condition(-1, 12, 12), -1);
        due.is("condition(3, 0, 0)", x.condition(3, 0, 0), -1);
        due.is("condition(least, 0, 0)", x.condition(Integer.MIN_VALUE, 0, 0), -1);
        due.is("condition(0, 12, 0)", x.condition(0, 12, 0), -2);
        due.is("condition(0, 0, 12)", x.condition(0, 0, 12), -2);
        due.is("condition(0, -1, 0)", x.condition(0, -1, 0), -2);
        due.is("condition(0, 0, -1)", x.condition(0, 0, -1), -2);
        due.is("condition(2, greatest, least)", x.condition(2, Integer.MAX_VALUE, Integer.MIN_VALUE), -2);
        due.is("solutions()", x.solutions(), 1);
        due.is("condition(0, 0, 0)", x.condition(0, 0, 0), 1);
        due.is("condition(2, 0, 1)", x.condition(2, 0, 1), 2);
        due.is("condition(1, 11, 11)", x.condition(1, 11, 11), 3);
        due.is("condition(3, 0, 0) when full", x.condition(3, 0, 0), -1);
        due.is("condition(0, 12, 0) when full", x.condition(0, 12, 0), -2);
        due.is("condition(0, 0, 0) when full", x.condition(0, 0, 0), -3);
    }

    /** Promise 8. */
    private static void drop() {
        TripleJoins x = walks();
        due.is("drop()", x.drop(), -1);
        x.extra(Numbers.pattern(3, 0, Numbers.D));
        due.is("drop() with an extra pattern alone", x.drop(), -1);
        x.need(Numbers.pattern(Numbers.A, 0, 2));
        x.need(Numbers.pattern(Numbers.B, 0, 3));
        x.need(Numbers.pattern(7, 0, Numbers.C));
        x.condition(Numbers.DIFFERENT, Numbers.A, 0);
        due.is("solutions()", x.solutions(), 0);
        due.is("drop()", x.drop(), 2);
        due.is("solutions()", x.solutions(), 4);
        due.is("values(C)", x.values(2), 256);
        due.is("drop()", x.drop(), 1);
        due.is("values(A)", x.values(0), 2);
        due.is("values(B)", x.values(1), 256);
        due.is("values(D)", x.values(3), 2 + 8);
        due.is("need(B 0 1)", x.need(Numbers.pattern(Numbers.B, 0, 1)), 2);
        due.is("values(B)", x.values(1), 8);
        due.is("drop()", x.drop(), 1);
        due.is("drop()", x.drop(), 0);
        due.is("drop()", x.drop(), -1);
        due.is("solutions(), the condition being left", x.solutions(), 0);
        due.is("extra(0), the extra pattern being left", x.extra(0), 1);
    }

    /** Promise 9. */
    private static void clear() {
        TripleJoins x = walks();
        due.is("clear()", x.clear(), 0);
        x.need(0);
        x.need(Numbers.pattern(Numbers.A, Numbers.B, Numbers.C));
        x.extra(Numbers.pattern(3, 0, Numbers.D));
        x.condition(Numbers.DIFFERENT, 1, 1);
        x.condition(Numbers.DIFFERENT, 1, 1);
        x.condition(Numbers.DIFFERENT, 1, 1);
        due.is("clear()", x.clear(), 2);
        due.is("clear() again", x.clear(), 0);
        due.is("solutions()", x.solutions(), 1);
        due.is("next(-1)", x.next(-1), Numbers.ALL_OPEN);
        due.is("statements()", x.statements(), 4);
        due.is("drop()", x.drop(), -1);
        due.is("condition(0, 1, 1)", x.condition(0, 1, 1), 1);
        due.is("extra(0)", x.extra(0), 0);
        due.is("need(A 0 2)", x.need(Numbers.pattern(Numbers.A, 0, 2)), 1);
        due.is("next(-1)", x.next(-1), Numbers.code(1, 8, 8, 8));
    }
}
