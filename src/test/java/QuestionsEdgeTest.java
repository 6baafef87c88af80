/** The boundary cases that the sections "Promise 11" to "Promise 18" name, sentence by sentence. */
public final class QuestionsEdgeTest {
    private static final Due due = new Due("QuestionsEdgeTest");

    public static void main(String[] args) {
        matchingNotGood();
        matchingCounts();
        matchingSameVariable();
        matchingAnyValues();
        solutionsNoneToMost();
        nextGreaterThanAfter();
        nextOfAnyInt();
        nextNone();
        isSolutionOutside();
        isSolutionOrNot();
        valuesNotGood();
        valuesWithOpen();
        havingNotGood();
        havingValueOutside();
        havingOpen();
        pairsNotGood();
        pairsDifferent();
        pairsWithOpen();
        vitalFewer();
        vitalNotFewer();
        vitalEachAlone();
        leastAndGreatestCodeAlone();
        due.end();
    }

    private static Calls on(String... first) {
        return new Calls(due, first);
    }

    /** Eight statements and four patterns with a variable each: all 4096 fillings without an open variable. */
    private static Calls all4096() {
        return on("sow 0.0.0 1 8", "need 0.0.A", "need 0.0.B", "need 0.0.C", "need 0.0.D");
    }

    /** A is 1 with C open, 2 with C = 7, and 3 with C = 0 .. 7. */
    private static Calls openAndAllValues() {
        return on("state 1.0.0", "state 2.0.0", "state 3.0.0", "state 2.1.7", "sow 3.1.0 1 8",
            "need A.0.0", "extra A.1.C");
    }

    /** Promise 11: "-1 if pattern is not good" */
    private static void matchingNotGood() {
        on("state 0.0.0").is("matching -1", -1).is("matching 1728", -1).is("matching least", -1)
            .is("matching greatest", -1).is("matching 0", 1).is("matching 1727", 1);
        on().is("matching 0", 0).is("matching 1727", 0).is("matching 1728", -1);
    }

    /** Promise 11: "How many statements are as a pattern asks": none to 48. */
    private static void matchingCounts() {
        Calls x = on("sow 0 1 47");
        x.is("matching A.B.C", 47).is("state 255", 1).is("matching A.B.C", 48).is("state 254", -2)
            .is("matching A.B.C", 48).is("matching 7.B.C", 1).is("matching 7.3.7", 1).is("matching 7.3.6", 0)
            .is("matching 0.B.C", 32).is("matching 1.B.C", 15).is("matching 1.1.C", 7).is("matching 2.B.C", 0);
        // The query, and what it gives a variable, has no part in it.
        x.is("need 0.0.A", 1).is("condition 0 A 3", 1).is("extra 7.3.B", 0).is("matching A.B.C", 48)
            .is("matching 0.0.A", 8).is("matching B.3.7", 2);
    }

    /** Promise 11: "fields of the same variable must be the same" */
    private static void matchingSameVariable() {
        String[] names = {"A", "B", "C", "D"};
        Calls x = on("state 1.1.1", "state 1.1.2", "state 1.2.1", "state 2.1.1", "state 1.2.3", "state 5.0.5");
        for (String v : names) {
            x.is("matching " + v + "." + v + ".1", 1).is("matching " + v + "." + v + ".2", 1)
                .is("matching " + v + "." + v + ".3", 0).is("matching 2." + v + "." + v, 1)
                .is("matching 1." + v + "." + v, 1).is("matching 5." + v + "." + v, 0)
                .is("matching " + v + ".2." + v, 1).is("matching " + v + ".0." + v, 1)
                .is("matching " + v + "." + v + "." + v, 1);
        }
        x.is("matching A.A.B", 2).is("matching A.B.A", 3).is("matching B.A.A", 2).is("matching A.B.C", 6);
    }

    /** Promise 11: "variables may have any values": 0 to 7, and a link 0 to 3. */
    private static void matchingAnyValues() {
        on("state 0.0.0", "state 7.0.0", "state 0.0.7", "state 0.3.0").is("matching D.0.0", 2)
            .is("matching 0.0.D", 2).is("matching 0.D.0", 2).is("matching A.0.D", 3).is("matching A.D.0", 3);
        on("state 3.3.3", "state 0.0.0").is("matching A.A.A", 2);
    }

    /** Promise 12: "How many solutions there are.": none, one, and as many as there can be. */
    private static void solutionsNoneToMost() {
        on().is("solutions", 1).is("need 0.0.0", 1).is("solutions", 0).is("state 0.0.0", 1).is("solutions", 1);
        all4096().is("solutions", 4096).is("condition 1 A B", 1).is("solutions", 3584)
            .is("condition 2 C D", 2).is("solutions", 1568).is("condition 0 A A", 3).is("solutions", 1568);
        // The two patterns give the same fillings: each is one solution.
        on("sow 0.0.0 1 8", "need 0.0.A", "need 0.0.A").is("solutions", 8);
        on("sow 0 1 48", "need A.B.C", "need A.B.C", "extra A.B.C").is("solutions", 48);
        on("state 1.0.0", "state 2.0.0", "need A.0.B", "extra C.0.B").is("solutions", 4);
    }

    /** Promise 13: "The least code of a solution greater than after" */
    private static void nextGreaterThanAfter() {
        Calls x = on("state 0.0.2", "state 0.0.3", "state 0.0.7", "need 0.0.D");
        int two = Calls.code("-.-.-.2");
        x.is("next " + (two - 2), two).is("next " + (two - 1), two).is("next " + two, two + 1)
            .is("next " + (two + 1), two + 5).is("next " + (two + 4), two + 5).is("next " + (two + 5), -1);
        all4096().is("next -1", 0).is("next 0", 1).is("next 6", 7).is("next 7", 9).is("next 8", 9)
            .is("next 7.7.7.6", Calls.code("7.7.7.7")).is("next 0.7.7.7", Calls.code("1.0.0.0"));
        openAndAllValues().is("next 1.-.-.-", Calls.code("2.-.7.-")).is("next 2.-.7.-", Calls.code("3.-.0.-"));
    }

    /** Promise 13: "(any int)" */
    private static void nextOfAnyInt() {
        all4096().is("next least", 0).is("next -2147483647", 0).is("next -2", 0).is("next -1", 0)
            .is("next greatest", -1).is("next 2147483646", -1).is("next 6561", -1).is("next 6560", -1)
            .is("next 6559", -1);
        on().is("next least", 6560).is("next 0", 6560).is("next 6558", 6560).is("next 6559", 6560)
            .is("next 6560", -1).is("next 6561", -1).is("next 6562", -1).is("next greatest", -1);
    }

    /** Promise 13: "-1 if there is none" */
    private static void nextNone() {
        on("need 0.0.0").is("next least", -1).is("next -1", -1).is("next 0", -1).is("next greatest", -1)
            .is("state 0.0.0", 1).is("next -1", 6560).is("next 6560", -1);
        openAndAllValues().is("next 3.-.6.-", Calls.code("3.-.7.-")).is("next 3.-.7.-", -1);
    }

    /** Promise 14: "-1 if code is not in 0 .. 6560" */
    private static void isSolutionOutside() {
        on().is("isSolution -1", -1).is("isSolution 6561", -1).is("isSolution least", -1)
            .is("isSolution greatest", -1).is("isSolution 0", 0).is("isSolution 6560", 1);
        all4096().is("isSolution -1", -1).is("isSolution 6561", -1).is("isSolution 0", 1).is("isSolution 6560", 0);
        on("need 0").is("isSolution -1", -1).is("isSolution 6561", -1).is("isSolution 6560", 0);
    }

    /** Promise 14: "1 if the filling with this code is a solution, otherwise 0" */
    private static void isSolutionOrNot() {
        all4096().is("isSolution 7.7.7.7", 1).is("isSolution 7.7.7.-", 0).is("isSolution 7.7.-.0", 0)
            .is("isSolution 7.-.0.0", 0).is("isSolution -.0.0.0", 0);
        openAndAllValues().is("isSolution 1.-.-.-", 1).is("isSolution 2.-.-.-", 0).is("isSolution 2.-.7.-", 1)
            .is("isSolution 2.-.6.-", 0).is("isSolution 2.0.7.-", 0).is("isSolution 2.-.7.0", 0)
            .is("isSolution 0.-.-.-", 0).is("isSolution 4.-.-.-", 0).is("isSolution -.-.7.-", 0);
    }

    /** Promise 15: "-1 if v is not good" */
    private static void valuesNotGood() {
        on().is("values -1", -1).is("values 4", -1).is("values 8", -1).is("values least", -1)
            .is("values greatest", -1).is("values 0", 256).is("values 3", 256);
        on("need 0").is("values -1", -1).is("values 4", -1).is("values 0", 0).is("values 3", 0);
    }

    /** Promise 15: "the sum of 2^value, of the values that a variable has in solutions (value 8 for open)" */
    private static void valuesWithOpen() {
        all4096().is("values 0", 255).is("values 1", 255).is("values 2", 255).is("values 3", 255);
        openAndAllValues().is("values 0", 2 + 4 + 8).is("values 1", 256).is("values 2", 511).is("values 3", 256)
            .is("condition 1 A 1", 1).is("values 2", 255).is("values 0", 4 + 8)
            .is("condition 1 C 7", 2).is("values 2", 127).is("values 0", 8)
            .is("condition 1 C 0", 3).is("values 2", 126);
        on("state 0.0.0", "need 0.0.D").is("values 3", 1).is("values 2", 256).is("retract 0.0.0", 0)
            .is("values 3", 0).is("values 2", 0);
    }

    /** Promise 16: "-1 if v is not good" */
    private static void havingNotGood() {
        on().is("having -1 8", -1).is("having 4 8", -1).is("having least 8", -1).is("having greatest 8", -1)
            .is("having 0 8", 1).is("having 3 8", 1);
    }

    /** Promise 16: "-2 if value is not in 0 .. 8" */
    private static void havingValueOutside() {
        all4096().is("having 0 -1", -2).is("having 0 9", -2).is("having 3 least", -2).is("having 3 greatest", -2)
            .is("having 0 0", 512).is("having 0 7", 512).is("having 0 8", 0).is("having 3 0", 512)
            .is("having 3 7", 512).is("having 3 8", 0);
    }

    /** Promise 16: "In how many solutions a variable has a value (8: is open)." */
    private static void havingOpen() {
        Calls x = openAndAllValues();
        x.is("having 2 8", 1).is("having 2 7", 2).is("having 2 0", 1).is("having 0 0", 0).is("having 0 1", 1)
            .is("having 0 2", 1).is("having 0 3", 8).is("having 0 4", 0).is("having 0 8", 0)
            .is("having 1 8", 10).is("having 1 7", 0);
        x.is("retract 2.1.7", 11).is("having 2 8", 2).is("having 2 7", 1);
        x.is("condition 0 C 7", 1).is("having 2 8", 0).is("having 2 7", 1).is("having 1 8", 1);
    }

    /** Promise 17: "-1 if v or w is not good" */
    private static void pairsNotGood() {
        String[] notGood = {"-1", "4", "8", "least", "greatest"};
        Calls x = on();
        for (String v : notGood) {
            x.is("pairs " + v + " 0", -1).is("pairs 3 " + v, -1).is("pairs " + v + " " + v, -1);
        }
        x.is("pairs 0 0", 1).is("pairs 0 3", 1).is("pairs 3 0", 1).is("pairs 3 3", 1);
    }

    /** Promise 17: "How many different pairs of what variables v and w have": none to 64, and one variable twice. */
    private static void pairsDifferent() {
        for (int v = 0; v < 4; v++) {
            for (int w = 0; w < 4; w++) {
                all4096().is("pairs " + v + " " + w, v == w ? 8 : 64);
                on("need 0").is("pairs " + v + " " + w, 0);
            }
        }
        on("state 0.0.1", "state 1.0.0", "state 7.0.7", "need A.0.D").is("pairs 0 3", 3).is("pairs 3 0", 3)
            .is("pairs 0 0", 3).is("state 0.0.0", 1).is("pairs 0 3", 4).is("pairs 3 3", 3).is("pairs 0 3", 4);
    }

    /** Promise 17: "(open counts as something that is had)" */
    private static void pairsWithOpen() {
        on().is("pairs 0 1", 1).is("pairs 2 2", 1);
        openAndAllValues().is("pairs 2 2", 9).is("pairs 0 2", 10).is("pairs 2 0", 10).is("pairs 1 2", 9)
            .is("pairs 2 1", 9).is("pairs 1 3", 1).is("pairs 0 1", 3)
            .is("condition 1 A 1", 1).is("pairs 2 2", 8).is("pairs 0 2", 9).is("pairs 2 3", 8);
    }

    /** Promise 18: "without them, each alone, there would be fewer solutions": by one, or all. */
    private static void vitalFewer() {
        on().is("vital", 0).is("state 0.0.0", 1).is("vital", 0).is("need 0.0.0", 1).is("vital", 1)
            .is("retract 0.0.0", 0).is("vital", 0);
        all4096().is("vital", 8).is("state 7.3.7", 1).is("vital", 8);
        on("sow 0 1 48", "need A.B.C").is("vital", 48).is("drop", 0).is("vital", 0);
        on("state 0", "state 255", "need A.B.C").is("vital", 2).is("condition 0 A 0", 1).is("vital", 1)
            .is("statements", 2);
    }

    /** Promise 18: as many solutions are not fewer. */
    private static void vitalNotFewer() {
        on("state 0.0.1", "extra 0.0.A").is("solutions", 1).is("vital", 0).is("state 0.0.2", 1).is("solutions", 2)
            .is("vital", 2);
        on("state 0.0.1", "extra 0.0.A", "condition 1 A 0").is("vital", 1).is("condition 1 A 1", 2).is("vital", 0);
        openAndAllValues().is("vital", 3 + 8).is("retract 2.1.7", 11).is("vital", 3 + 8);
        on("state 1.0.0", "state 1.1.1", "need A.0.0", "extra A.1.1").is("vital", 1);
    }

    /** Promise 18: "each alone": the others are all there when one is looked at. */
    private static void vitalEachAlone() {
        on("state 0.0.1", "state 1.1.7", "need 0.0.A", "extra A.1.B").is("vital", 1).is("state 1.1.6", 1)
            .is("vital", 3).is("condition 1 A 1", 1).is("vital", 0);
        // Without 2.0.2 all three solutions are gone, without one of the others one or two of them.
        on("state 2.0.2", "state 2.0.3", "state 5.0.5", "need A.0.A", "need A.0.B").is("solutions", 3)
            .is("vital", 3).is("statements", 3).is("solutions", 3);
        // That the solution is gone without the first two makes the last one no more vital.
        on("state 2.0.2", "state 2.0.3", "state 4.0.4", "need 2.0.2", "need 2.0.3").is("vital", 2);
    }

    /** "0 .. 6560": a solution that is the only one counts in each question, though its code is the first or last. */
    private static void leastAndGreatestCodeAlone() {
        on("state 0", "need A.A.A", "need B.C.D").is("solutions", 1).is("next -1", 0).is("next 0", -1)
            .is("isSolution 0", 1).is("values 0", 1).is("values 3", 1).is("having 0 0", 1).is("having 3 0", 1)
            .is("pairs 0 3", 1).is("pairs 1 1", 1).is("vital", 1);
        on("state 0", "need 0.0.0").is("solutions", 1).is("next 6559", 6560).is("next 6560", -1)
            .is("isSolution 6560", 1).is("values 0", 256).is("values 3", 256).is("having 0 8", 1)
            .is("having 3 8", 1).is("pairs 0 3", 1).is("pairs 1 1", 1).is("vital", 1);
    }
}
