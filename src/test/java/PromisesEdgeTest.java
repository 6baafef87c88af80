/** The boundary cases that the sections "Promise 1" to "Promise 10" name, sentence by sentence. */
public final class PromisesEdgeTest {
    private static final Due due = new Due("PromisesEdgeTest");

    public static void main(String[] args) {
        newObject();
        stateNotGood();
        stateWith48();
        stateThereOrNot();
        sowSeedNotGood();
        sowStepOutside();
        sowCountOutside();
        sowModulo256();
        sowOneAfterTheOtherLikeState();
        sowAnswersHowManyThereAre();
        retractNotGood();
        retractNotInTheSet();
        retractAnswersHowManyAreLeft();
        needNotGood();
        needWith4();
        needAtTheEnd();
        extraNotGood();
        extraBeforeOrNot();
        conditionKindOutside();
        conditionOperandOutside();
        conditionWith3();
        dropNone();
        dropTheLast();
        clearAnswersHowManyThereWere();
        clearEmptiesTheQuery();
        statements();
        due.end();
    }

    private static Calls on(String... first) {
        return new Calls(due, first);
    }

    /** Promise 1: "No statements, an empty query." */
    private static void newObject() {
        on().is("statements", 0).is("state 0", 1).is("statements", 1);
        on().is("matching A.B.C", 0);
        on().is("drop", -1);
        on().is("clear", 0);
        on().is("need 0", 1);
        on().is("extra 0", 0);
        on().is("condition 0 0 0", 1);
        on().is("solutions", 1).is("next -1", 6560).is("vital", 0);
        // What is done to one object is not seen in another one.
        Calls x = on("state 0", "need 0", "extra 0", "condition 1 0 0");
        Calls y = on();
        y.is("statements", 0).is("solutions", 1).is("clear", 0).is("extra 0", 0).is("condition 0 0 0", 1);
        x.is("statements", 1).is("solutions", 0).is("clear", 1);
    }

    /** Promise 2: "-1 if statement is not good" */
    private static void stateNotGood() {
        on().is("state -1", -1).is("state 0", 1).is("state 255", 1).is("state 256", -1)
            .is("state least", -1).is("state greatest", -1).is("statements", 2);
    }

    /** Promise 2: "-2 if it is not in the set and there are 48" */
    private static void stateWith48() {
        Calls x = on("sow 0 5 47");
        x.is("state 1", 1).is("statements", 48).is("state 2", -2).is("state 1", 0).is("state 0", 0)
            .is("state 230", 0).is("state 235", -2).is("state 255", -2).is("statements", 48);
        x.is("retract 1", 47).is("state 2", 1).is("state 1", -2).is("state 2", 0).is("statements", 48);
    }

    /** Promise 2: "otherwise 1 if it was put in, 0 if it was there" */
    private static void stateThereOrNot() {
        Calls x = on();
        for (int statement = 0; statement < 256; statement += 17) {
            x.is("state " + statement, 1).is("state " + statement, 0).is("state " + statement, 0);
        }
        x.is("statements", 16).is("retract 0", 15).is("state 0", 1).is("state 0", 0).is("statements", 16);
    }

    /** Promise 3: "-1 if seed is not good" */
    private static void sowSeedNotGood() {
        on().is("sow -1 1 1", -1).is("sow 256 1 1", -1).is("sow least 1 1", -1).is("sow greatest 1 1", -1)
            .is("statements", 0).is("sow 0 1 1", 1).is("sow 255 1 1", 2)
            .is("matching 0.0.0", 1).is("matching 7.3.7", 1);
    }

    /** Promise 3: "-2 if step is not in 0 .. 255" */
    private static void sowStepOutside() {
        on().is("sow 9 -1 2", -2).is("sow 9 256 2", -2).is("sow 9 least 2", -2).is("sow 9 greatest 2", -2)
            .is("statements", 0).is("sow 9 0 2", 1).is("retract 9", 0)
            .is("sow 9 255 2", 2).is("retract 9", 1).is("retract 8", 0);
    }

    /** Promise 3: "-3 if count is not in 1 .. 48" */
    private static void sowCountOutside() {
        on().is("sow 9 1 0", -3).is("sow 9 1 -1", -3).is("sow 9 1 49", -3).is("sow 9 1 least", -3)
            .is("sow 9 1 greatest", -3).is("sow 9 0 49", -3).is("statements", 0)
            .is("sow 9 1 1", 1).is("retract 10", -2).is("retract 9", 0)
            .is("sow 9 1 48", 48).is("state 57", -2).is("retract 56", 47).is("state 57", 1);
    }

    /** Promise 3: "(seed + k * step) modulo 256 for k = 0 .. count - 1" */
    private static void sowModulo256() {
        on().is("sow 254 1 2", 2).is("retract 255", 1).is("retract 254", 0);
        on().is("sow 254 1 3", 3).is("retract 0", 2).is("retract 255", 1).is("retract 254", 0);
        on().is("sow 254 1 4", 4).is("retract 1", 3).is("retract 0", 2);
        on().is("sow 0 128 48", 2).is("retract 128", 1).is("retract 0", 0);
        on().is("sow 255 255 48", 48).is("retract 255", 47).is("retract 208", 46).is("retract 207", -2);
        on().is("sow 0 255 48", 48).is("retract 0", 47).is("retract 255", 46).is("retract 209", 45)
            .is("retract 208", -2).is("retract 1", -2);
        int[][] rows = {{255, 254, 48}, {200, 97, 48}, {0, 64, 48}, {17, 16, 17}, {17, 16, 16}, {128, 129, 2}};
        for (int[] row : rows) {
            sowPutsIn(row[0], row[1], row[2]);
        }
    }

    private static void sowPutsIn(int seed, int step, int count) {
        boolean[] there = new boolean[256];
        int many = 0;
        for (int k = 0, statement = seed; k < count; k++) {
            many += there[statement] ? 0 : 1;
            there[statement] = true;
            statement += step;
            statement -= statement >= 256 ? 256 : 0;
        }
        Calls x = on().is("sow " + seed + " " + step + " " + count, many);
        for (int statement = 0; statement < 256; statement++) {
            String parts = statement / 32 + "." + statement / 8 % 4 + "." + statement % 8;
            x.is("matching " + parts, there[statement] ? 1 : 0);
        }
    }

    /** Promise 3: "one after the other like state": what is there stays, and the first ones take the last places. */
    private static void sowOneAfterTheOtherLikeState() {
        on("sow 0 1 47").is("sow 100 1 2", 48).is("retract 101", -2).is("retract 100", 47);
        on("sow 0 1 46").is("sow 100 1 2", 48).is("retract 101", 47).is("retract 100", 46);
        on("sow 0 1 46").is("sow 102 255 3", 48).is("retract 100", -2).is("retract 101", 47).is("retract 102", 46);
        on("sow 0 1 46").is("sow 44 1 5", 48).is("retract 48", -2).is("retract 47", 47).is("retract 46", 46);
        on("sow 0 1 48").is("sow 100 1 48", 48).is("sow 0 1 48", 48).is("matching A.B.C", 48)
            .is("retract 100", -2).is("retract 47", 47).is("retract 0", 46);
    }

    /** Promise 3: "otherwise answers how many statements there are" */
    private static void sowAnswersHowManyThereAre() {
        on().is("sow 3 0 1", 1).is("sow 3 0 48", 1).is("sow 3 1 2", 2).is("sow 3 1 2", 2).is("sow 100 1 45", 47)
            .is("statements", 47).is("sow 200 1 1", 48).is("sow 201 1 1", 48).is("statements", 48);
    }

    /** Promise 4: "-1 if statement is not good" */
    private static void retractNotGood() {
        on("state 0", "state 255").is("retract -1", -1).is("retract 256", -1).is("retract least", -1)
            .is("retract greatest", -1).is("statements", 2).is("retract 0", 1).is("retract 255", 0);
    }

    /** Promise 4: "-2 if it is not in the set" */
    private static void retractNotInTheSet() {
        on().is("retract 0", -2).is("retract 255", -2).is("statements", 0);
        on("state 7").is("retract 6", -2).is("retract 8", -2).is("retract 7", 0).is("retract 7", -2)
            .is("statements", 0).is("state 7", 1).is("retract 7", 0);
    }

    /** Promise 4: "otherwise answers how many are left": from 48 down to none. */
    private static void retractAnswersHowManyAreLeft() {
        Calls x = on("sow 5 5 48");
        for (int k = 0; k < 48; k++) {
            x.is("retract " + 5 * (k + 1), 47 - k);
            x.is("matching A.B.C", 47 - k);
        }
        x.is("statements", 0).is("retract 5", -2).is("sow 0 1 48", 48);
    }

    /** Promise 5: "-1 if pattern is not good" */
    private static void needNotGood() {
        on().is("need -1", -1).is("need 1728", -1).is("need least", -1).is("need greatest", -1).is("solutions", 1)
            .is("need 0", 1).is("need 1727", 2);
    }

    /** Promise 5: "-2 if there are 4; otherwise answers how many there are" */
    private static void needWith4() {
        on().is("need 0", 1).is("need 0", 2).is("need 0", 3).is("need 0", 4).is("need 0", -2).is("need 1727", -2)
            .is("drop", 3).is("need 1727", 4).is("need 0", -2).is("clear", 4).is("need 0", 1);
    }

    /** Promise 5: "Puts a needed pattern at the end of the list." */
    private static void needAtTheEnd() {
        on("state 0.0.1", "state 0.1.2").is("need 0.0.A", 1).is("need 0.1.B", 2).is("next -1", Calls.code("1.2.-.-"))
            .is("drop", 1).is("next -1", Calls.code("1.-.-.-")).is("need 0.1.C", 2)
            .is("next -1", Calls.code("1.-.2.-")).is("drop", 1).is("next -1", Calls.code("1.-.-.-"));
    }

    /** Promise 6: "-1 if pattern is not good" */
    private static void extraNotGood() {
        on("state 0.0.0").is("extra -1", -1).is("extra 1728", -1).is("extra least", -1).is("extra greatest", -1)
            .is("next -1", 6560).is("extra 0", 0).is("next -1", 6560)
            .is("extra 1727", 1).is("next -1", Calls.code("-.-.-.0"))
            .is("extra 1728", -1).is("extra -1", -1).is("next -1", Calls.code("-.-.-.0"));
    }

    /** Promise 6: "in place of the one before; [..] 1 if there was one before, else 0" */
    private static void extraBeforeOrNot() {
        on().is("extra 0", 0).is("extra 0", 1).is("extra 1727", 1).is("extra 5", 1);
        on().is("extra 1728", -1).is("extra 5", 0).is("extra -1", -1).is("extra 5", 1);
        on("need 0", "condition 0 0 0").is("extra 0", 0).is("clear", 1).is("extra 0", 0).is("drop", -1)
            .is("extra 0", 1);
        on("state 0.0.1", "state 0.1.2").is("extra 0.0.A", 0).is("values 0", 2).is("values 1", 256)
            .is("extra 0.1.B", 1).is("values 0", 256).is("values 1", 4)
            .is("extra 0.1.2", 1).is("values 0", 256).is("values 1", 256);
    }

    /** Promise 7: "-1 if kind is not in 0 .. 2" */
    private static void conditionKindOutside() {
        on().is("condition -1 1 1", -1).is("condition 3 1 1", -1).is("condition least 1 1", -1)
            .is("condition greatest 1 1", -1).is("solutions", 1)
            .is("condition 0 1 1", 1).is("solutions", 1).is("condition 2 1 2", 2).is("solutions", 1)
            .is("condition 2 1 1", 3).is("solutions", 0);
    }

    /** Promise 7: "-2 if first or second is not in 0 .. 11" */
    private static void conditionOperandOutside() {
        String[] outside = {"-1", "12", "least", "greatest"};
        Calls x = on();
        for (String operand : outside) {
            x.is("condition 0 " + operand + " 0", -2).is("condition 0 0 " + operand, -2)
                .is("condition 0 " + operand + " " + operand, -2);
        }
        x.is("solutions", 1).is("condition 1 0 11", 1).is("condition 1 11 0", 2).is("condition 0 0 0", 3);
    }

    /** Promise 7: "-3 if there are 3; otherwise answers how many there are" */
    private static void conditionWith3() {
        on().is("condition 0 1 1", 1).is("condition 0 1 1", 2).is("condition 0 1 1", 3).is("condition 0 1 1", -3)
            .is("condition 1 1 1", -3).is("solutions", 1).is("drop", -1).is("condition 0 1 1", -3)
            .is("clear", 0).is("condition 1 1 1", 1).is("solutions", 0);
    }

    /** Promise 8: "-1 if there is none" */
    private static void dropNone() {
        on().is("drop", -1).is("drop", -1).is("need 0", 1).is("drop", 0).is("drop", -1);
        on("extra 0.0.A", "condition 1 A 0", "state 0.0.3").is("drop", -1).is("values 0", 8).is("extra 0", 1)
            .is("condition 0 0 0", 2);
    }

    /** Promise 8: "Takes the last needed pattern away; [..] answers how many are left" */
    private static void dropTheLast() {
        on("sow 0.0.0 1 4").is("need 0.0.A", 1).is("need 0.0.B", 2).is("need 0.0.C", 3).is("need 0.0.D", 4)
            .is("solutions", 256).is("drop", 3).is("solutions", 64).is("values 3", 256).is("values 2", 15)
            .is("drop", 2).is("solutions", 16).is("values 2", 256).is("drop", 1).is("solutions", 4)
            .is("values 1", 256).is("values 0", 15).is("drop", 0).is("solutions", 1).is("values 0", 256)
            .is("drop", -1).is("solutions", 1);
        // A variable of the last one that stands in another one as well keeps its values.
        on("state 0.0.1", "state 1.0.1").is("need A.0.B", 1).is("need B.0.B", 2).is("drop", 1)
            .is("values 0", 3).is("values 1", 2);
        // The condition and the extra pattern stay.
        on("state 0.0.1").is("need 0.0.A", 1).is("condition 1 A 7", 1).is("solutions", 1).is("drop", 0)
            .is("solutions", 0).is("extra 0.0.A", 0).is("solutions", 1).is("need 0.0.1", 1).is("drop", 0)
            .is("solutions", 1).is("extra 0.0.B", 1);
    }

    /** Promise 9: "answers how many needed patterns there were" */
    private static void clearAnswersHowManyThereWere() {
        for (int many = 0; many <= 4; many++) {
            Calls x = on("extra 5", "condition 0 0 0", "condition 0 0 0", "state 9");
            for (int i = 0; i < many; i++) {
                x.is("need 0", i + 1);
            }
            x.is("clear", many).is("clear", 0).is("drop", -1);
        }
    }

    /** Promise 9: "The query becomes empty: no needed patterns, no extra pattern, no conditions" */
    private static void clearEmptiesTheQuery() {
        on("sow 0 1 48", "need 7.3.7").is("solutions", 0).is("clear", 1).is("solutions", 1).is("next -1", 6560)
            .is("drop", -1).is("need 0.0.A", 1).is("solutions", 8);
        on("sow 0 1 48", "extra 0.0.A").is("solutions", 8).is("clear", 0).is("solutions", 1).is("next -1", 6560)
            .is("vital", 0).is("extra 0.0.B", 0).is("values 0", 256);
        on("condition 1 0 0", "condition 1 0 0", "condition 1 0 0").is("solutions", 0).is("clear", 0)
            .is("solutions", 1).is("condition 0 0 0", 1).is("condition 0 0 0", 2).is("condition 0 0 0", 3)
            .is("condition 0 0 0", -3).is("solutions", 1);
        on("sow 0 1 48").is("clear", 0).is("statements", 48).is("matching A.B.C", 48);
        on().is("clear", 0).is("clear", 0).is("solutions", 1);
    }

    /** Promise 10: "How many statements there are." */
    private static void statements() {
        Calls x = on();
        for (int many = 0; many < 48; many++) {
            x.is("statements", many).is("state " + 5 * many, 1);
        }
        x.is("statements", 48).is("state 255", -2).is("statements", 48).is("state 256", -1).is("statements", 48)
            .is("sow 1 1 48", 48).is("statements", 48).is("retract 255", -2).is("statements", 48)
            .is("retract 0", 47).is("statements", 47);
    }
}
