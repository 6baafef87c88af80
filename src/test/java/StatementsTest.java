/** Promises 1 to 4, 10 and 11: the set of statements. */
public final class StatementsTest {
    private static final Due due = new Due("StatementsTest");

    public static void main(String[] args) {
        newObject();
        state();
        stateWhenFull();
        sow();
        sowWhenFull();
        sowRefused();
        retract();
        matching();
        matchingSameVariable();
        objectsAreApart();
        due.end();
    }

    /** Promise 1, promise 10. */
    private static void newObject() {
        TripleJoins x = new TripleJoins();
        due.is("statements()", x.statements(), 0);
        due.is("matching(all)", x.matching(Numbers.pattern(Numbers.A, Numbers.B, Numbers.C)), 0);
        due.is("solutions()", x.solutions(), 1);
        due.is("next(-1)", x.next(-1), Numbers.ALL_OPEN);
        due.is("drop()", x.drop(), -1);
        due.is("clear()", x.clear(), 0);
        due.is("extra(0)", x.extra(0), 0);
        due.is("condition(0, 0, 0)", x.condition(0, 0, 0), 1);
        for (int statement = 0; statement < 256; statement++) {
            due.is("retract(" + statement + ")", x.retract(statement), -2);
        }
    }

    /** Promise 2, promise 10. */
    private static void state() {
        TripleJoins x = new TripleJoins();
        due.is("state(0)", x.state(0), 1);
        due.is("state(255)", x.state(255), 1);
        due.is("statements()", x.statements(), 2);
        due.is("state(0) again", x.state(0), 0);
        due.is("statements()", x.statements(), 2);
        int[] bad = {-1, 256, Integer.MIN_VALUE, Integer.MAX_VALUE};
        for (int statement : bad) {
            due.is("state(" + statement + ")", x.state(statement), -1);
            due.is("statements()", x.statements(), 2);
        }
    }

    /** Promise 2: at 48 a new one is refused, one that is there answers 0, a bad one -1. */
    private static void stateWhenFull() {
        TripleJoins x = new TripleJoins();
        for (int k = 0; k < 48; k++) {
            due.is("state(" + 5 * k + ")", x.state(5 * k), 1);
        }
        due.is("statements()", x.statements(), 48);
        due.is("state(1)", x.state(1), -2);
        due.is("state(5)", x.state(5), 0);
        due.is("state(256)", x.state(256), -1);
        due.is("statements()", x.statements(), 48);
        due.is("retract(1)", x.retract(1), -2);
        due.is("retract(5)", x.retract(5), 47);
        due.is("state(1)", x.state(1), 1);
        due.is("state(5)", x.state(5), -2);
    }

    /** Promise 3. */
    private static void sow() {
        TripleJoins x = new TripleJoins();
        due.is("sow(250, 3, 4)", x.sow(250, 3, 4), 4);
        due.is("retract(250)", x.retract(250), 3);
        due.is("retract(253)", x.retract(253), 2);
        due.is("retract(0)", x.retract(0), 1);
        due.is("retract(3)", x.retract(3), 0);
        due.is("sow(9, 0, 48)", x.sow(9, 0, 48), 1);
        due.is("sow(9, 128, 5)", x.sow(9, 128, 5), 2);
        due.is("retract(137)", x.retract(137), 1);
        due.is("sow(0, 255, 2)", x.sow(0, 255, 2), 3);
        due.is("retract(255)", x.retract(255), 2);
        due.is("sow(255, 1, 1)", x.sow(255, 1, 1), 3);
        due.is("retract(255)", x.retract(255), 2);
    }

    /** Promise 3: what finds no place is passed over, and the rest goes on. */
    private static void sowWhenFull() {
        TripleJoins x = new TripleJoins();
        due.is("sow(0, 1, 47)", x.sow(0, 1, 47), 47);
        due.is("sow(45, 1, 10)", x.sow(45, 1, 10), 48);
        due.is("retract(47)", x.retract(47), 47);
        due.is("retract(48)", x.retract(48), -2);
        due.is("sow(200, 1, 3)", x.sow(200, 1, 3), 48);
        due.is("sow(210, 0, 1)", x.sow(210, 0, 1), 48);
        due.is("retract(200)", x.retract(200), 47);
        due.is("retract(201)", x.retract(201), -2);
    }

    /** Promise 3: wrong inputs, in the order of the tests. */
    private static void sowRefused() {
        TripleJoins x = new TripleJoins();
        due.is("sow(-1, 0, 1)", x.sow(-1, 0, 1), -1);
        due.is("sow(256, -1, 0)", x.sow(256, -1, 0), -1);
        due.is("sow(0, -1, 1)", x.sow(0, -1, 1), -2);
        due.is("sow(0, 256, 0)", x.sow(0, 256, 0), -2);
        due.is("sow(0, 1, 0)", x.sow(0, 1, 0), -3);
        due.is("sow(0, 1, 49)", x.sow(0, 1, 49), -3);
        due.is("sow(0, 1, -1)", x.sow(0, 1, -1), -3);
        due.is("sow(least, least, least)", x.sow(Integer.MIN_VALUE, Integer.MIN_VALUE, Integer.MIN_VALUE), -1);
        due.is("sow(0, 1, greatest)", x.sow(0, 1, Integer.MAX_VALUE), -3);
        due.is("statements()", x.statements(), 0);
    }

    /** Promise 4. */
    private static void retract() {
        TripleJoins x = new TripleJoins();
        x.sow(0, 51, 6);
        due.is("retract(255)", x.retract(255), 5);
        due.is("retract(255) again", x.retract(255), -2);
        due.is("retract(0)", x.retract(0), 4);
        due.is("retract(1)", x.retract(1), -2);
        due.is("retract(-1)", x.retract(-1), -1);
        due.is("retract(256)", x.retract(256), -1);
        due.is("retract(least)", x.retract(Integer.MIN_VALUE), -1);
        due.is("statements()", x.statements(), 4);
        due.is("state(0)", x.state(0), 1);
    }

    /** Promise 11. */
    private static void matching() {
        TripleJoins x = new TripleJoins();
        x.state(Numbers.statement(1, 2, 3));
        x.state(Numbers.statement(1, 2, 4));
        x.state(Numbers.statement(1, 3, 3));
        x.state(Numbers.statement(7, 0, 7));
        due.is("matching(1 2 3)", x.matching(Numbers.pattern(1, 2, 3)), 1);
        due.is("matching(1 2 5)", x.matching(Numbers.pattern(1, 2, 5)), 0);
        due.is("matching(1 2 A)", x.matching(Numbers.pattern(1, 2, Numbers.A)), 2);
        due.is("matching(1 B A)", x.matching(Numbers.pattern(1, Numbers.B, Numbers.A)), 3);
        due.is("matching(D B 3)", x.matching(Numbers.pattern(Numbers.D, Numbers.B, 3)), 2);
        due.is("matching(C B A)", x.matching(Numbers.pattern(Numbers.C, Numbers.B, Numbers.A)), 4);
        due.is("matching(6 0 7)", x.matching(Numbers.pattern(6, 0, 7)), 0);
        // Link 4 and subject 6 would be the number of subject 7 and link 0.
        due.is("matching(6 4 7)", x.matching(Numbers.pattern(6, 4, 7)), 0);
        due.is("matching(A 7 B)", x.matching(Numbers.pattern(Numbers.A, 7, Numbers.B)), 0);
        due.is("matching(-1)", x.matching(-1), -1);
        due.is("matching(1728)", x.matching(1728), -1);
        due.is("matching(1727)", x.matching(1727), 0);
        due.is("matching(0)", x.matching(0), 0);
        // The query is none of matching's business.
        x.need(Numbers.pattern(Numbers.A, 0, Numbers.B));
        x.condition(Numbers.DIFFERENT, Numbers.A, Numbers.B);
        due.is("matching(C B A)", x.matching(Numbers.pattern(Numbers.C, Numbers.B, Numbers.A)), 4);
    }

    /** Promise 11: fields of the same variable must be the same. */
    private static void matchingSameVariable() {
        TripleJoins x = new TripleJoins();
        x.state(Numbers.statement(5, 1, 5));
        x.state(Numbers.statement(2, 2, 6));
        x.state(Numbers.statement(4, 3, 3));
        x.state(Numbers.statement(1, 1, 1));
        x.state(Numbers.statement(0, 1, 2));
        due.is("matching(A B A)", x.matching(Numbers.pattern(Numbers.A, Numbers.B, Numbers.A)), 2);
        due.is("matching(A A B)", x.matching(Numbers.pattern(Numbers.A, Numbers.A, Numbers.B)), 2);
        due.is("matching(B A A)", x.matching(Numbers.pattern(Numbers.B, Numbers.A, Numbers.A)), 2);
        due.is("matching(D D D)", x.matching(Numbers.pattern(Numbers.D, Numbers.D, Numbers.D)), 1);
        due.is("matching(5 A A)", x.matching(Numbers.pattern(5, Numbers.A, Numbers.A)), 0);
        due.is("matching(1 1 1)", x.matching(Numbers.pattern(1, 1, 1)), 1);
        due.is("matching(A B C)", x.matching(Numbers.pattern(Numbers.A, Numbers.B, Numbers.C)), 5);
    }

    private static void objectsAreApart() {
        TripleJoins x = new TripleJoins();
        x.state(3);
        x.need(3);
        TripleJoins y = new TripleJoins();
        due.is("statements() of another object", y.statements(), 0);
        due.is("clear() of another object", y.clear(), 0);
        due.is("clear()", x.clear(), 1);
    }
}
