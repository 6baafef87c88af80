/** Promises 12 to 18: the questions about solutions. */
public final class SolutionsTest {
    private static final Due due = new Due("SolutionsTest");

    public static void main(String[] args) {
        emptyQuery();
        noSolution();
        constantPattern();
        linkVariable();
        nextInOrder();
        isSolution();
        extraStaysOrIsReplaced();
        extraWithTwoOpenVariables();
        extraWithNothingToFill();
        extraWithTheSameVariableTwice();
        valuesHavingPairs();
        refused();
        vital();
        vitalWithExtra();
        vitalAfterClear();
        leastNumbers();
        manySolutions();
        due.end();
    }

    private static void emptyQuery() {
        TripleJoins x = new TripleJoins();
        x.sow(0, 5, 48);
        due.is("solutions()", x.solutions(), 1);
        due.is("next(least)", x.next(Integer.MIN_VALUE), Numbers.ALL_OPEN);
        due.is("isSolution(6560)", x.isSolution(Numbers.ALL_OPEN), 1);
        due.is("isSolution(0)", x.isSolution(0), 0);
        due.is("vital()", x.vital(), 0);
        for (int v = 0; v < 4; v++) {
            due.is("values(" + v + ")", x.values(v), 256);
            due.is("having(" + v + ", 8)", x.having(v, 8), 1);
            due.is("having(" + v + ", 0)", x.having(v, 0), 0);
            due.is("pairs(" + v + ", " + v + ")", x.pairs(v, v), 1);
        }
    }

    private static void noSolution() {
        TripleJoins x = new TripleJoins();
        x.need(Numbers.pattern(Numbers.A, Numbers.B, Numbers.C));
        due.is("solutions()", x.solutions(), 0);
        due.is("next(-1)", x.next(-1), -1);
        due.is("isSolution(6560)", x.isSolution(Numbers.ALL_OPEN), 0);
        due.is("values(3)", x.values(3), 0);
        due.is("having(3, 8)", x.having(3, 8), 0);
        due.is("pairs(0, 1)", x.pairs(0, 1), 0);
        due.is("vital()", x.vital(), 0);
    }

    private static void constantPattern() {
        TripleJoins x = new TripleJoins();
        x.state(Numbers.statement(7, 0, 1));
        x.need(Numbers.pattern(7, 0, 1));
        due.is("solutions()", x.solutions(), 1);
        due.is("next(-1)", x.next(-1), Numbers.ALL_OPEN);
        due.is("vital()", x.vital(), 1);
        // Subject 6 and link 4 would be the number of subject 7 and link 0: there is no link 4.
        x.need(Numbers.pattern(6, 4, 1));
        due.is("solutions()", x.solutions(), 0);
    }

    private static void linkVariable() {
        TripleJoins x = new TripleJoins();
        x.state(Numbers.statement(7, 0, 1));
        x.state(Numbers.statement(5, 3, 4));
        x.need(Numbers.pattern(Numbers.A, Numbers.B, Numbers.C));
        due.is("solutions()", x.solutions(), 2);
        due.is("values(B)", x.values(1), 1 + 8);
        due.is("values(A)", x.values(0), 32 + 128);
        x.need(Numbers.pattern(Numbers.A, Numbers.A, Numbers.C));
        due.is("solutions()", x.solutions(), 0);
        x.state(Numbers.statement(2, 2, 0));
        due.is("solutions()", x.solutions(), 1);
        due.is("next(-1)", x.next(-1), Numbers.code(2, 2, 0, 8));
    }

    /** Promise 13. */
    private static void nextInOrder() {
        TripleJoins x = new TripleJoins();
        x.state(Numbers.statement(0, 0, 0));
        x.state(Numbers.statement(0, 0, 7));
        x.state(Numbers.statement(7, 3, 0));
        x.state(Numbers.statement(7, 3, 7));
        x.need(Numbers.pattern(Numbers.A, Numbers.B, Numbers.D));
        int[] codes = {Numbers.code(0, 0, 8, 0), Numbers.code(0, 0, 8, 7),
            Numbers.code(7, 3, 8, 0), Numbers.code(7, 3, 8, 7)};
        int before = -1;
        for (int code : codes) {
            due.is("next(" + before + ")", x.next(before), code);
            due.is("next(" + (code - 1) + ")", x.next(code - 1), code);
            before = code;
        }
        due.is("next(last)", x.next(before), -1);
        due.is("next(6559)", x.next(6559), -1);
        due.is("next(6560)", x.next(6560), -1);
        due.is("next(6561)", x.next(6561), -1);
        due.is("next(greatest)", x.next(Integer.MAX_VALUE), -1);
        due.is("next(least)", x.next(Integer.MIN_VALUE), codes[0]);
        x.clear();
        x.need(Numbers.pattern(Numbers.A, Numbers.A, Numbers.B));
        x.need(Numbers.pattern(Numbers.A, Numbers.C, Numbers.D));
        x.condition(Numbers.SAME, Numbers.B, Numbers.D);
        due.is("next(-1), a solution with code 0", x.next(-1), 0);
        due.is("next(0)", x.next(0), Numbers.code(0, 7, 0, 7));
    }

    /** Promise 14. */
    private static void isSolution() {
        TripleJoins x = new TripleJoins();
        x.state(Numbers.statement(3, 1, 2));
        x.need(Numbers.pattern(Numbers.D, 1, Numbers.B));
        due.is("isSolution(8 2 8 3)", x.isSolution(Numbers.code(8, 2, 8, 3)), 1);
        due.is("isSolution(8 3 8 2)", x.isSolution(Numbers.code(8, 3, 8, 2)), 0);
        due.is("isSolution(0 2 8 3)", x.isSolution(Numbers.code(0, 2, 8, 3)), 0);
        due.is("isSolution(8 2 8 8)", x.isSolution(Numbers.code(8, 2, 8, 8)), 0);
        due.is("isSolution(6560)", x.isSolution(Numbers.ALL_OPEN), 0);
        due.is("isSolution(0)", x.isSolution(0), 0);
        due.is("isSolution(-1)", x.isSolution(-1), -1);
        due.is("isSolution(6561)", x.isSolution(6561), -1);
        due.is("isSolution(least)", x.isSolution(Integer.MIN_VALUE), -1);
        due.is("isSolution(greatest)", x.isSolution(Integer.MAX_VALUE), -1);
        x.condition(Numbers.LESS, Numbers.D, Numbers.B);
        due.is("isSolution(8 2 8 3) with D less than B", x.isSolution(Numbers.code(8, 2, 8, 3)), 0);
    }

    private static void extraStaysOrIsReplaced() {
        TripleJoins x = new TripleJoins();
        x.state(Numbers.statement(1, 0, 0));
        x.state(Numbers.statement(2, 0, 0));
        x.state(Numbers.statement(1, 1, 5));
        x.state(Numbers.statement(1, 1, 6));
        x.need(Numbers.pattern(Numbers.A, 0, 0));
        x.extra(Numbers.pattern(Numbers.A, 1, Numbers.C));
        due.is("solutions()", x.solutions(), 3);
        due.is("isSolution(1 8 5 8)", x.isSolution(Numbers.code(1, 8, 5, 8)), 1);
        due.is("isSolution(1 8 6 8)", x.isSolution(Numbers.code(1, 8, 6, 8)), 1);
        due.is("isSolution(1 8 8 8)", x.isSolution(Numbers.code(1, 8, 8, 8)), 0);
        due.is("isSolution(2 8 8 8)", x.isSolution(Numbers.code(2, 8, 8, 8)), 1);
        // A filling that replaced the base filling and keeps no condition doesn't bring the base filling back.
        x.condition(Numbers.DIFFERENT, Numbers.A, 2);
        x.condition(Numbers.SAME, Numbers.C, 7);
        due.is("solutions()", x.solutions(), 0);
    }

    private static void extraWithTwoOpenVariables() {
        TripleJoins x = new TripleJoins();
        x.state(Numbers.statement(1, 0, 0));
        x.state(Numbers.statement(2, 0, 0));
        x.state(Numbers.statement(1, 3, 5));
        x.need(Numbers.pattern(Numbers.A, 0, 0));
        x.extra(Numbers.pattern(Numbers.A, Numbers.D, Numbers.B));
        x.condition(Numbers.SAME, Numbers.A, 1);
        due.is("solutions()", x.solutions(), 2);
        due.is("isSolution(1 0 8 0)", x.isSolution(Numbers.code(1, 0, 8, 0)), 1);
        due.is("isSolution(1 5 8 3)", x.isSolution(Numbers.code(1, 5, 8, 3)), 1);
        due.is("isSolution(1 5 8 8)", x.isSolution(Numbers.code(1, 5, 8, 8)), 0);
        due.is("isSolution(1 8 8 3)", x.isSolution(Numbers.code(1, 8, 8, 3)), 0);
        due.is("isSolution(1 8 8 8)", x.isSolution(Numbers.code(1, 8, 8, 8)), 0);
        x.extra(Numbers.pattern(Numbers.B, 2, Numbers.D));
        due.is("solutions()", x.solutions(), 1);
        due.is("next(-1)", x.next(-1), Numbers.code(1, 8, 8, 8));
    }

    private static void extraWithNothingToFill() {
        TripleJoins x = new TripleJoins();
        x.state(Numbers.statement(1, 0, 0));
        x.state(Numbers.statement(2, 0, 0));
        x.state(Numbers.statement(2, 1, 1));
        x.need(Numbers.pattern(Numbers.A, 0, 0));
        x.extra(Numbers.pattern(Numbers.A, 1, 1));
        due.is("solutions()", x.solutions(), 2);
        due.is("values(A)", x.values(0), 2 + 4);
        due.is("vital()", x.vital(), 2);
        x.extra(Numbers.pattern(0, 0, 0));
        due.is("solutions()", x.solutions(), 2);
        x.drop();
        due.is("solutions()", x.solutions(), 1);
        due.is("next(-1)", x.next(-1), Numbers.ALL_OPEN);
    }

    private static void extraWithTheSameVariableTwice() {
        TripleJoins x = new TripleJoins();
        x.state(Numbers.statement(1, 2, 3));
        x.extra(Numbers.pattern(Numbers.B, 2, Numbers.B));
        due.is("next(-1)", x.next(-1), Numbers.ALL_OPEN);
        x.extra(Numbers.pattern(Numbers.B, Numbers.B, 3));
        due.is("next(-1)", x.next(-1), Numbers.ALL_OPEN);
        x.extra(Numbers.pattern(1, Numbers.B, Numbers.B));
        due.is("next(-1)", x.next(-1), Numbers.ALL_OPEN);
        x.state(Numbers.statement(1, 1, 1));
        due.is("next(-1)", x.next(-1), Numbers.code(8, 1, 8, 8));
        due.is("solutions()", x.solutions(), 1);
    }

    /** Promises 15, 16 and 17. */
    private static void valuesHavingPairs() {
        TripleJoins x = new TripleJoins();
        x.state(Numbers.statement(0, 0, 1));
        x.state(Numbers.statement(0, 0, 2));
        x.state(Numbers.statement(7, 0, 1));
        x.state(Numbers.statement(7, 1, 4));
        x.state(Numbers.statement(7, 1, 0));
        x.need(Numbers.pattern(Numbers.A, 0, Numbers.B));
        x.extra(Numbers.pattern(Numbers.A, 1, Numbers.D));
        due.is("solutions()", x.solutions(), 4);
        due.is("values(A)", x.values(0), 1 + 128);
        due.is("values(B)", x.values(1), 2 + 4);
        due.is("values(C)", x.values(2), 256);
        due.is("values(D)", x.values(3), 1 + 16 + 256);
        due.is("having(A, 0)", x.having(0, 0), 2);
        due.is("having(A, 7)", x.having(0, 7), 2);
        due.is("having(B, 1)", x.having(1, 1), 3);
        due.is("having(B, 8)", x.having(1, 8), 0);
        due.is("having(C, 8)", x.having(2, 8), 4);
        due.is("having(D, 8)", x.having(3, 8), 2);
        due.is("having(D, 4)", x.having(3, 4), 1);
        due.is("having(D, 5)", x.having(3, 5), 0);
        due.is("pairs(A, B)", x.pairs(0, 1), 3);
        due.is("pairs(B, A)", x.pairs(1, 0), 3);
        due.is("pairs(A, D)", x.pairs(0, 3), 3);
        due.is("pairs(B, D)", x.pairs(1, 3), 4);
        due.is("pairs(A, C)", x.pairs(0, 2), 2);
        due.is("pairs(D, D)", x.pairs(3, 3), 3);
        due.is("pairs(C, C)", x.pairs(2, 2), 1);
        due.is("pairs(A, B) again", x.pairs(0, 1), 3);
    }

    /** Promises 15, 16 and 17: wrong inputs. */
    private static void refused() {
        TripleJoins x = new TripleJoins();
        int[] bad = {-1, 4, 8, Integer.MIN_VALUE, Integer.MAX_VALUE};
        for (int v : bad) {
            due.is("values(" + v + ")", x.values(v), -1);
            due.is("having(" + v + ", 0)", x.having(v, 0), -1);
            due.is("having(" + v + ", 9)", x.having(v, 9), -1);
            due.is("pairs(" + v + ", 0)", x.pairs(v, 0), -1);
            due.is("pairs(0, " + v + ")", x.pairs(0, v), -1);
        }
        due.is("having(0, -1)", x.having(0, -1), -2);
        due.is("having(3, 9)", x.having(3, 9), -2);
        due.is("having(3, least)", x.having(3, Integer.MIN_VALUE), -2);
        due.is("having(3, greatest)", x.having(3, Integer.MAX_VALUE), -2);
    }

    /** Promise 18. */
    private static void vital() {
        TripleJoins x = new TripleJoins();
        x.state(Numbers.statement(1, 0, 2));
        x.state(Numbers.statement(2, 0, 3));
        x.state(Numbers.statement(4, 0, 5));
        x.state(Numbers.statement(0, 0, 0));
        x.state(Numbers.statement(2, 1, 3));
        x.need(Numbers.pattern(Numbers.A, 0, Numbers.B));
        x.need(Numbers.pattern(Numbers.B, 0, Numbers.C));
        due.is("solutions()", x.solutions(), 2);
        due.is("vital()", x.vital(), 3);
        x.condition(Numbers.LESS, Numbers.A, Numbers.B);
        due.is("vital()", x.vital(), 2);
        due.is("statements()", x.statements(), 5);
        due.is("solutions()", x.solutions(), 1);
        due.is("retract(1 0 2)", x.retract(Numbers.statement(1, 0, 2)), 4);
        due.is("vital()", x.vital(), 0);
    }

    /** Promise 18: without its only match in the extra pattern a base filling stays, so no solution is lost. */
    private static void vitalWithExtra() {
        TripleJoins x = new TripleJoins();
        x.state(Numbers.statement(1, 0, 0));
        x.state(Numbers.statement(1, 1, 5));
        x.need(Numbers.pattern(Numbers.A, 0, 0));
        x.extra(Numbers.pattern(Numbers.A, 1, Numbers.D));
        due.is("vital(), one match", x.vital(), 1);
        x.state(Numbers.statement(1, 1, 6));
        due.is("vital(), two matches", x.vital(), 3);
        x.condition(Numbers.SAME, Numbers.D, 6);
        due.is("vital(), a condition on the extra variable", x.vital(), 2);
        x.clear();
        x.extra(Numbers.pattern(1, 1, Numbers.D));
        due.is("vital(), no needed pattern", x.vital(), 2);
    }

    /** Promises 9 and 18: nothing of an extra pattern is left once the query is empty. */
    private static void vitalAfterClear() {
        TripleJoins x = new TripleJoins();
        x.state(Numbers.statement(1, 0, 0));
        x.state(Numbers.statement(1, 0, 6));
        x.extra(Numbers.pattern(1, 0, Numbers.D));
        due.is("vital()", x.vital(), 2);
        x.clear();
        due.is("vital() after clear", x.vital(), 0);
        x.need(Numbers.pattern(1, 0, Numbers.A));
        due.is("vital() after clear and need", x.vital(), 2);
        due.is("values(D)", x.values(3), 256);
    }

    /** The statement 0 and the code 0 count like all others. */
    private static void leastNumbers() {
        TripleJoins x = new TripleJoins();
        x.state(0);
        due.is("matching(A B C)", x.matching(Numbers.pattern(Numbers.A, Numbers.B, Numbers.C)), 1);
        x.extra(Numbers.pattern(Numbers.A, 0, Numbers.D));
        due.is("solutions()", x.solutions(), 1);
        due.is("next(-1)", x.next(-1), Numbers.code(0, 8, 8, 0));
        due.is("isSolution(6560)", x.isSolution(Numbers.ALL_OPEN), 0);
        x.need(Numbers.pattern(Numbers.A, Numbers.B, Numbers.C));
        due.is("solutions()", x.solutions(), 1);
        due.is("next(-1)", x.next(-1), 0);
        due.is("isSolution(0)", x.isSolution(0), 1);
        due.is("values(B)", x.values(1), 1);
        due.is("having(B, 0)", x.having(1, 0), 1);
        due.is("pairs(B, C)", x.pairs(1, 2), 1);
        due.is("vital()", x.vital(), 1);
    }

    /** With 48 statements, two patterns without a common variable give 48 times 48 solutions. */
    private static void manySolutions() {
        TripleJoins x = new TripleJoins();
        for (int subject = 0; subject < 6; subject++) {
            for (int object = 0; object < 8; object++) {
                x.state(Numbers.statement(subject, 0, object));
            }
        }
        x.need(Numbers.pattern(Numbers.A, 0, Numbers.B));
        x.need(Numbers.pattern(Numbers.C, 0, Numbers.D));
        due.is("solutions()", x.solutions(), 2304);
        due.is("pairs(A, C)", x.pairs(0, 2), 36);
        due.is("pairs(B, D)", x.pairs(1, 3), 64);
        due.is("values(B)", x.values(1), 255);
        due.is("having(A, 5)", x.having(0, 5), 384);
        due.is("next(-1)", x.next(-1), 0);
        due.is("vital()", x.vital(), 48);
    }
}
