/** The boundary cases that the section "Terms" names, sentence by sentence. */
public final class TermsEdgeTest {
    private static final Due due = new Due("TermsEdgeTest");

    public static void main(String[] args) {
        statementNumbers();
        atMost48Statements();
        fourVariables();
        entriesOfValuesAndVariables();
        patternNumbers();
        atMost4Needed();
        atMostOneExtra();
        atMost3Conditions();
        operandsOfValuesAndVariables();
        kinds();
        noLinkGreaterThan3();
        noLinkGreaterThan3InExtra();
        noLinkGreaterThan3InMatching();
        baseFillingGivesJustNeededVariables();
        allNeededHold();
        noNeededPatterns();
        extraReplaces();
        extraGivesJustItsOtherVariables();
        extraWithoutOtherVariables();
        extraWithoutFillingStays();
        extraWithoutBaseFilling();
        conditionsKeptAll();
        conditionWithOpenVariable();
        conditionWithOpenVariableOfExtra();
        codes();
        due.end();
    }

    private static Calls on(String... first) {
        return new Calls(due, first);
    }

    /** "a subject 0 .. 7, a link 0 .. 3 and an object 0 .. 7; [..] 32 * subject + 8 * link + object, 0 .. 255" */
    private static void statementNumbers() {
        int number = 0;
        for (int subject = 0; subject < 8; subject++) {
            for (int link = 0; link < 4; link++) {
                for (int object = 0; object < 8; object++) {
                    String parts = subject + "." + link + "." + object;
                    on("need A.B.C").is("state " + number, 1).is("matching " + parts, 1)
                        .is("next -1", Calls.code(parts + ".-")).is("solutions", 1);
                    number++;
                }
            }
        }
        on().is("state 256", -1).is("state -1", -1);
    }

    /** "There is a set of at most 48 statements, empty at first." */
    private static void atMost48Statements() {
        on().is("statements", 0).is("matching A.B.C", 0);
        on("sow 0 1 46").is("state 46", 1).is("statements", 47).is("state 47", 1).is("statements", 48)
            .is("state 48", -2).is("statements", 48).is("matching A.B.C", 48);
        on("sow 208 1 46").is("state 0", 1).is("state 1", 1).is("state 2", -2).is("statements", 48);
    }

    /** "There are four VARIABLES, 0 .. 3." */
    private static void fourVariables() {
        String[] names = {"A", "B", "C", "D"};
        for (int v = 0; v < 4; v++) {
            Calls x = on("state 5.0.1", "need " + names[v] + ".0.1");
            for (int w = 0; w < 4; w++) {
                x.is("values " + w, w == v ? 1 << 5 : 1 << 8);
            }
            x.is("values -1", -1).is("values 4", -1);
        }
        on("state 0.0.1", "state 1.0.2", "state 2.0.3").is("need A.0.B", 1).is("need B.0.C", 2).is("need C.0.D", 3)
            .is("solutions", 1).is("next -1", Calls.code("0.1.2.3"));
    }

    /** "an entry 0 .. 7 stands for that value, an entry 8 + v for the variable v (8 .. 11)" */
    private static void entriesOfValuesAndVariables() {
        on("state 7.0.7", "state 6.0.7", "state 7.0.6").is("matching 7.0.7", 1)
            .is("matching 8.0.7", 2).is("matching 7.0.8", 2).is("matching 0.0.7", 0).is("matching 7.0.0", 0);
        on("state 0.3.0", "state 0.2.0").is("matching 0.3.0", 1).is("matching 0.7.0", 0).is("matching 0.8.0", 2);
        on("state 0.0.4", "state 0.0.5", "state 0.1.0", "state 0.2.2", "state 1.0.0")
            .is("matching 11", 2).is("matching 12", 1).is("matching 143", 1).is("matching 144", 1)
            .is("need 11", 1).is("values 3", 16 + 32);
        // With 48 in the set, each entry 0 .. 7 has its own value and 8 .. 11 have all.
        Calls x = on("sow 0 1 48");
        for (int entry = 0; entry < 12; entry++) {
            x.is("matching 0.0." + entry, entry < 8 ? 1 : 8);
            x.is("matching " + entry + ".0.0", entry < 2 ? 1 : entry < 8 ? 0 : 2);
            x.is("matching 0." + entry + ".0", entry < 4 ? 1 : entry < 8 ? 0 : 4);
        }
    }

    /** "144 * (entry of subject) + 12 * (entry of link) + (entry of object), 0 .. 1727" */
    private static void patternNumbers() {
        on("state 0.0.0", "state 1.1.1", "state 2.2.3").is("matching -1", -1).is("matching 0", 1)
            .is("matching 1727", 2).is("matching 1728", -1);
        on("state 0.0.0").is("need 0", 1).is("next -1", Calls.code("-.-.-.-"))
            .is("need 1727", 2).is("next -1", Calls.code("-.-.-.0"));
        // Subject 11 and the rest 0, link 11 and the rest 0: the greatest entry has its own weight in each place.
        on("state 5.0.0", "state 0.3.0").is("matching 1584", 1).is("matching 132", 1).is("need 1584", 1)
            .is("next -1", Calls.code("-.-.-.5")).is("drop", 0).is("need 132", 1).is("next -1", Calls.code("-.-.-.3"));
    }

    /** "a list of at most 4 NEEDED patterns" */
    private static void atMost4Needed() {
        Calls x = on("state 0.0.1", "state 1.0.2", "state 2.0.3");
        x.is("need 0.0.A", 1).is("need A.0.B", 2).is("need B.0.C", 3).is("next -1", Calls.code("1.2.3.-"));
        x.is("need D.0.1", 4).is("next -1", Calls.code("1.2.3.0"));
        x.is("need 7.3.7", -2).is("solutions", 1).is("next -1", Calls.code("1.2.3.0")).is("clear", 4);
    }

    /** "at most one EXTRA pattern" */
    private static void atMostOneExtra() {
        on("state 0.0.1", "state 0.1.2").is("next -1", Calls.code("-.-.-.-"))
            .is("extra 0.0.A", 0).is("next -1", Calls.code("1.-.-.-"))
            .is("extra 0.1.B", 1).is("next -1", Calls.code("-.2.-.-")).is("solutions", 1)
            .is("extra 0.3.B", 1).is("next -1", Calls.code("-.-.-.-"));
    }

    /** "a list of at most 3 CONDITIONS" */
    private static void atMost3Conditions() {
        Calls x = on("sow 0 1 8", "need 0.0.A");
        x.is("solutions", 8).is("condition 1 A 0", 1).is("solutions", 7).is("condition 1 A 3", 2).is("solutions", 6)
            .is("condition 2 A 7", 3).is("solutions", 5).is("values 0", 2 + 4 + 16 + 32 + 64);
        x.is("condition 1 A 1", -3).is("solutions", 5);
    }

    /** "two OPERANDS, each 0 .. 7 for a value or 8 + v for a variable" */
    private static void operandsOfValuesAndVariables() {
        on("condition 0 7 7").is("solutions", 1);
        on("condition 0 8 8").is("solutions", 0);
        on("condition 0 0 0").is("solutions", 1);
        on().is("condition 0 0 -1", -2).is("condition 0 -1 0", -2).is("condition 0 12 0", -2)
            .is("condition 0 0 12", -2).is("condition 0 11 11", 1);
        String[] names = {"A", "B", "C", "D"};
        for (int v = 0; v < 4; v++) {
            for (int value = 0; value < 8; value++) {
                int operand = 8 + v;
                on("sow 0 1 8", "need 0.0." + names[v], "condition 0 " + operand + " " + value)
                    .is("solutions", 1).is("values " + v, 1 << value);
                on("sow 0 1 8", "need 0.0." + names[v], "condition 0 " + value + " " + operand)
                    .is("solutions", 1).is("values " + v, 1 << value);
            }
        }
    }

    /** "kind 0 asks that they are the same, kind 1 that they are different, kind 2 that the first is less" */
    private static void kinds() {
        for (int first = 0; first < 8; first++) {
            for (int second = 0; second < 8; second++) {
                int[] kept = {first == second ? 1 : 0, first != second ? 1 : 0, first < second ? 1 : 0};
                for (int kind = 0; kind < 3; kind++) {
                    on("condition " + kind + " " + first + " " + second).is("solutions", kept[kind]);
                    on("state " + first + ".0." + second, "need A.0.B", "condition " + kind + " A B")
                        .is("solutions", kept[kind]);
                    on("state " + first + ".0." + second, "need 8.0.D", "condition " + kind + " " + first + " D")
                        .is("solutions", kept[kind]);
                    on("state " + first + ".0." + second, "need C.0.B", "condition " + kind + " C " + second)
                        .is("solutions", kept[kind]);
                }
            }
        }
    }

    /** "(there is none with a link greater than 3)": in needed patterns. */
    private static void noLinkGreaterThan3() {
        for (int link = 0; link < 4; link++) {
            on("state 1." + link + ".5").is("need 1." + link + ".5", 1).is("solutions", 1);
        }
        // The number of 1.4.5 would be that of 2.0.5, and so on to 1.7.5 and 2.3.5.
        for (int link = 4; link < 8; link++) {
            on("state 2." + (link - 4) + ".5").is("need 1." + link + ".5", 1).is("solutions", 0).is("vital", 0);
        }
        on("state 7.3.7").is("need 7.3.7", 1).is("solutions", 1).is("need 7.4.7", 2).is("solutions", 0);
        on("sow 0 1 48").is("need 7.7.7", 1).is("solutions", 0).is("vital", 0);
        // A variable that is the link of one pattern and the object of another one.
        on("state 0.0.3", "state 0.0.4", "state 1.3.5", "state 2.0.5").is("need 0.0.A", 1).is("solutions", 2)
            .is("need 1.A.5", 2).is("solutions", 1).is("next -1", Calls.code("3.-.-.-"));
        on("state 7.3.7", "state 7.0.7").is("need 7.0.A", 1).is("need A.A.A", 2).is("solutions", 0);
    }

    /** "(there is none with a link greater than 3)": in the extra pattern, so that a base filling stays. */
    private static void noLinkGreaterThan3InExtra() {
        on("state 2.0.5").is("extra 1.4.A", 0).is("next -1", Calls.code("-.-.-.-"));
        on("state 2.0.5").is("extra 2.0.A", 0).is("next -1", Calls.code("5.-.-.-"));
        on("state 0.0.3", "state 0.0.4", "state 1.3.5", "state 2.0.5").is("need 0.0.A", 1).is("extra 1.A.B", 0)
            .is("solutions", 2).is("next -1", Calls.code("3.5.-.-")).is("next 3.5.-.-", Calls.code("4.-.-.-"));
        on("state 7.0.7", "state 7.3.7").is("need 7.0.A", 1).is("extra A.A.B", 0).is("solutions", 1)
            .is("next -1", Calls.code("7.-.-.-"));
    }

    /** "(there is none with a link greater than 3)": in matching. */
    private static void noLinkGreaterThan3InMatching() {
        on("state 2.0.5").is("matching 2.0.5", 1).is("matching 1.4.5", 0).is("matching A.4.B", 0);
        on("state 7.3.7").is("matching A.3.B", 1).is("matching A.4.B", 0).is("matching A.7.B", 0)
            .is("matching 7.7.7", 0).is("matching A.A.A", 0);
        on("state 3.3.3").is("matching A.A.A", 1);
    }

    /** "A BASE filling gives values to just those variables that occur in needed patterns" */
    private static void baseFillingGivesJustNeededVariables() {
        Calls x = on("state 0.0.6");
        x.is("need 0.0.6", 1).is("solutions", 1).is("next -1", Calls.code("-.-.-.-"));
        x.is("need 0.0.C", 2).is("solutions", 1).is("next -1", Calls.code("-.-.6.-"))
            .is("isSolution 6.-.6.-", 0).is("isSolution -.-.-.-", 0);
        x.is("need 0.0.A", 3).is("solutions", 1).is("next -1", Calls.code("6.-.6.-"));
        x.is("need B.0.D", 4).is("solutions", 1).is("next -1", Calls.code("6.0.6.6")).is("isSolution 6.-.6.-", 0);
    }

    /** "such that all needed patterns hold": one that does not is enough, wherever it stands. */
    private static void allNeededHold() {
        for (int failing = 0; failing < 5; failing++) {
            Calls x = on("state 0.0.6", "state 1.1.1");
            for (int i = 0; i < 4; i++) {
                x.is(i == failing ? "need 0.1.6" : "need 0.0.6", i + 1);
                x.is("solutions", failing <= i ? 0 : 1);
            }
        }
        on("state 0.0.6", "need 0.0.A", "need A.0.6").is("solutions", 0).is("state 6.0.6", 1).is("solutions", 1);
    }

    /** "(With no needed patterns there is one base filling, with all variables open.)" */
    private static void noNeededPatterns() {
        on().is("solutions", 1).is("next -1", 6560).is("isSolution 6560", 1).is("vital", 0);
        on("sow 0 1 48").is("solutions", 1).is("next -1", 6560).is("isSolution 0", 0).is("vital", 0);
        on("need 0.0.A").is("solutions", 0).is("drop", 0).is("solutions", 1).is("next -1", 6560);
        on("state 0.0.4", "need 0.0.A").is("next -1", Calls.code("4.-.-.-")).is("isSolution 6560", 0)
            .is("clear", 1).is("isSolution 6560", 1).is("solutions", 1);
        on("state 0.0.4", "extra 0.0.A").is("solutions", 1).is("next -1", Calls.code("4.-.-.-"));
    }

    /** "a base filling is REPLACED by all fillings that [..]": none, one, and eight of them. */
    private static void extraReplaces() {
        Calls x = on("state 1.0.0", "state 2.0.0", "state 3.0.0", "state 2.1.7", "sow 3.1.0 1 8");
        x.is("need A.0.0", 1).is("solutions", 3).is("extra A.1.D", 0).is("solutions", 1 + 1 + 8);
        x.is("next -1", Calls.code("1.-.-.-")).is("next 1.-.-.-", Calls.code("2.-.-.7"))
            .is("next 2.-.-.7", Calls.code("3.-.-.0")).is("next 3.-.-.7", -1);
        x.is("isSolution 2.-.-.-", 0).is("isSolution 3.-.-.-", 0).is("isSolution 1.-.-.7", 0);
        x.is("values 3", 511).is("having 3 8", 1).is("having 3 7", 2);
        x.is("retract 2.1.7", 11).is("isSolution 2.-.-.-", 1).is("isSolution 2.-.-.7", 0);
    }

    /** "that give just the other variables of the extra pattern values as well": one, two and three of them. */
    private static void extraGivesJustItsOtherVariables() {
        String[] set = {"state 1.0.0", "state 1.1.2", "state 1.3.5"};
        on(set).is("need A.0.0", 1).is("extra A.1.C", 0).is("solutions", 1).is("next -1", Calls.code("1.-.2.-"));
        on(set).is("need A.0.0", 1).is("extra A.C.D", 0).is("solutions", 3).is("next -1", Calls.code("1.-.0.0"))
            .is("next 1.-.0.0", Calls.code("1.-.1.2")).is("next 1.-.1.2", Calls.code("1.-.3.5"))
            .is("isSolution 1.-.3.-", 0).is("isSolution 1.-.-.5", 0).is("isSolution 1.-.-.-", 0);
        on(set).is("need A.0.0", 1).is("extra D.C.B", 0).is("solutions", 3).is("next -1", Calls.code("1.0.0.1"));
        on(set).is("extra D.3.D", 0).is("next -1", Calls.code("-.-.-.-"))
            .is("extra D.0.D", 1).is("next -1", Calls.code("-.-.-.-"))
            .is("state 4.0.4", 1).is("next -1", Calls.code("-.-.-.4")).is("solutions", 1);
        // The value that the base filling gives is not given anew.
        on("state 1.0.0", "state 2.1.6").is("need A.0.0", 1).is("extra A.1.B", 0)
            .is("next -1", Calls.code("1.-.-.-")).is("state 1.1.6", 1).is("next -1", Calls.code("1.6.-.-"));
    }

    /** The same sentence when there is no other variable: what replaces the base filling is the base filling. */
    private static void extraWithoutOtherVariables() {
        on("state 1.0.0", "state 1.1.1").is("need A.0.0", 1).is("extra A.1.1", 0).is("solutions", 1)
            .is("next -1", Calls.code("1.-.-.-")).is("retract 1.1.1", 1).is("solutions", 1)
            .is("next -1", Calls.code("1.-.-.-"));
        on("state 1.0.0").is("extra 1.0.0", 0).is("next -1", 6560).is("extra 1.0.1", 1).is("next -1", 6560);
    }

    /** "if there are none, it stays as it is" */
    private static void extraWithoutFillingStays() {
        on().is("extra A.B.C", 0).is("solutions", 1).is("next -1", 6560)
            .is("state 0.0.0", 1).is("solutions", 1).is("next -1", Calls.code("0.0.0.-")).is("isSolution 6560", 0)
            .is("retract 0.0.0", 0).is("next -1", 6560);
        on("state 1.0.2").is("need A.0.B", 1).is("extra B.0.C", 0).is("next -1", Calls.code("1.2.-.-"))
            .is("state 2.0.7", 1).is("solutions", 2).is("next -1", Calls.code("1.2.7.-"))
            .is("next 1.2.7.-", Calls.code("2.7.-.-")).is("isSolution 1.2.-.-", 0);
    }

    /** The same sentences when no base filling is there to be replaced or to stay. */
    private static void extraWithoutBaseFilling() {
        on("state 1.0.2").is("extra A.0.B", 0).is("solutions", 1).is("need 7.0.C", 1).is("solutions", 0)
            .is("next -1", -1).is("state 7.0.0", 1).is("solutions", 2);
    }

    /** "those are SOLUTIONS that keep all conditions": one that is not kept is enough, wherever it stands. */
    private static void conditionsKeptAll() {
        for (int broken = 0; broken < 4; broken++) {
            Calls x = on("state 0.0.6", "need 0.0.A");
            for (int i = 0; i < 3; i++) {
                x.is(i == broken ? "condition 2 A 6" : "condition 2 A 7", i + 1);
                x.is("solutions", broken <= i ? 0 : 1);
            }
        }
    }

    /** "a condition with an open variable is not kept": of each kind, and on each side. */
    private static void conditionWithOpenVariable() {
        for (int kind = 0; kind < 3; kind++) {
            for (int value = 0; value < 8; value++) {
                on("condition " + kind + " A " + value).is("solutions", 0).is("next -1", -1);
                on("condition " + kind + " " + value + " D").is("solutions", 0).is("isSolution 6560", 0);
            }
            on("condition " + kind + " B C").is("solutions", 0);
            on("condition " + kind + " C C").is("solutions", 0);
            on("state 0.0.3", "need 0.0.A", "condition " + kind + " A B").is("solutions", 0);
            on("state 0.0.3", "need 0.0.A", "condition " + kind + " B A").is("solutions", 0);
        }
        on("condition 0 B B").is("solutions", 0).is("need 0.0.B", 1).is("state 0.0.3", 1).is("solutions", 1);
        on("condition 1 B 0").is("solutions", 0).is("need 0.0.B", 1).is("state 0.0.3", 1).is("solutions", 1);
        on("condition 2 7 B").is("solutions", 0).is("need 0.0.B", 1).is("state 0.0.3", 1).is("solutions", 0);
        on("condition 2 2 B").is("solutions", 0).is("need 0.0.B", 1).is("state 0.0.3", 1).is("solutions", 1);
    }

    /** The same sentence for a variable of the extra pattern: open where the base filling stays, else not. */
    private static void conditionWithOpenVariableOfExtra() {
        Calls x = on("state 1.0.0", "state 2.0.0", "state 2.1.6", "state 2.1.7", "need A.0.0", "extra A.1.C");
        x.is("solutions", 3).is("condition 1 C 0", 1).is("solutions", 2).is("isSolution 1.-.-.-", 0)
            .is("isSolution 2.-.6.-", 1).is("condition 1 C 6", 2).is("solutions", 1)
            .is("next -1", Calls.code("2.-.7.-"));
        // What replaced the base filling is gone as well now, and the base filling does not come back.
        x.is("condition 0 C 0", 3).is("solutions", 0).is("next -1", -1);
    }

    /** "digits in base 9 [..] variable 0 the first digit, 8 for open ones: 0 .. 6560" */
    private static void codes() {
        int[] weights = {729, 81, 9, 1};
        String[] names = {"A", "B", "C", "D"};
        for (int v = 0; v < 4; v++) {
            for (int value = 0; value < 8; value++) {
                int code = 6560 - (8 - value) * weights[v];
                on("state 0.0." + value, "need 0.0." + names[v]).is("next -1", code).is("isSolution " + code, 1)
                    .is("isSolution " + (code - 1), 0).is("isSolution " + (code + 1), 0);
            }
        }
        String[] all = {"need 0.0.A", "need 0.0.B", "need 0.0.C", "need 0.0.D"};
        on(all).is("state 0.0.0", 1).is("next -1", 0).is("isSolution 0", 1).is("isSolution 1", 0)
            .is("isSolution -1", -1);
        on(all).is("state 0.0.7", 1).is("next -1", 7 * (729 + 81 + 9 + 1)).is("isSolution 6560", 0);
        on().is("next -1", 6560).is("isSolution 6560", 1).is("isSolution 6559", 0).is("isSolution 6561", -1);
    }
}
