/** Runs of up to 512 calls, the same in every run of the test, each answer held against the model's. */
public final class ModelTest {
    private static final int RUNS = 400;
    private static final int[] ODD = {-1, -2, 4, 8, 9, 12, 48, 49, 256, 1728, 6560, 6561,
        Integer.MIN_VALUE, Integer.MAX_VALUE};
    private static final Due due = new Due("ModelTest");

    private static long dice;

    public static void main(String[] args) {
        for (int run = 0; run < RUNS; run++) {
            dice = 7919L * run + 1;
            int calls = run % 20 == 0 ? 512 : 80;
            play(run, calls);
        }
        due.end();
    }

    private static void play(int run, int calls) {
        TripleJoins x = new TripleJoins();
        Model model = new Model();
        // Few values make patterns meet; all values reach the edges.
        int span = run % 3 == 0 ? 8 : 2 + run % 3;
        for (int call = 0; call < calls; call++) {
            if (call % 3 != 2) {
                change(run, x, model, span);
            } else {
                ask(run, x, model, span);
            }
        }
        askAll(run, x, model);
    }

    private static void change(int run, TripleJoins x, Model model, int span) {
        int a = statement(span);
        int p = pattern(span);
        switch (roll(16)) {
            case 0, 1, 2, 3 -> same(run, "state(" + a + ")", x.state(a), model.state(a));
            case 4, 5 -> {
                int step = odd(roll(256));
                int count = odd(1 + roll(roll(4) == 0 ? 48 : 10));
                same(run, "sow(" + a + ", " + step + ", " + count + ")",
                    x.sow(a, step, count), model.sow(a, step, count));
            }
            case 6, 7 -> same(run, "retract(" + a + ")", x.retract(a), model.retract(a));
            case 8, 9, 10 -> same(run, "need(" + p + ")", x.need(p), model.need(p));
            case 11 -> same(run, "extra(" + p + ")", x.extra(p), model.extra(p));
            case 12 -> {
                int kind = odd(roll(3));
                int first = odd(entry(span));
                int second = odd(entry(span));
                same(run, "condition(" + kind + ", " + first + ", " + second + ")",
                    x.condition(kind, first, second), model.condition(kind, first, second));
            }
            case 13, 14 -> same(run, "drop()", x.drop(), model.drop());
            default -> {
                if (roll(2) == 0) {
                    same(run, "clear()", x.clear(), model.clear());
                }
            }
        }
    }

    private static void ask(int run, TripleJoins x, Model model, int span) {
        int v = odd(roll(4));
        int w = odd(roll(4));
        int value = odd(roll(9));
        int code = odd(roll(6561));
        int p = pattern(span);
        switch (roll(12)) {
            case 0 -> same(run, "matching(" + p + ")", x.matching(p), model.matching(p));
            case 1, 2 -> same(run, "solutions()", x.solutions(), model.solutions());
            case 3, 4 -> same(run, "next(" + code + ")", x.next(code), model.next(code));
            case 5 -> same(run, "isSolution(" + code + ")", x.isSolution(code), model.isSolution(code));
            case 6 -> {
                int found = x.next(code);
                same(run, "isSolution(" + found + ")", x.isSolution(found), found < 0 ? -1 : 1);
            }
            case 7 -> same(run, "values(" + v + ")", x.values(v), model.values(v));
            case 8, 9 -> same(run, "having(" + v + ", " + value + ")", x.having(v, value), model.having(v, value));
            case 10 -> same(run, "pairs(" + v + ", " + w + ")", x.pairs(v, w), model.pairs(v, w));
            default -> same(run, "vital()", x.vital(), model.vital());
        }
    }

    /** Every question once more: asking has changed nothing. */
    private static void askAll(int run, TripleJoins x, Model model) {
        same(run, "statements()", x.statements(), model.statements());
        same(run, "solutions()", x.solutions(), model.solutions());
        same(run, "vital()", x.vital(), model.vital());
        same(run, "next(-1)", x.next(-1), model.next(-1));
        for (int v = 0; v < 4; v++) {
            same(run, "values(" + v + ")", x.values(v), model.values(v));
            same(run, "pairs(" + v + ", 0)", x.pairs(v, 0), model.pairs(v, 0));
        }
    }

    private static void same(int run, String call, int got, int want) {
        due.is("run " + run + ": " + call, got, want);
    }

    private static int statement(int span) {
        return odd(Numbers.statement(roll(span), roll(span < 4 ? span : 4), roll(span)));
    }

    private static int pattern(int span) {
        return odd(Numbers.pattern(entry(span), entry(span < 4 ? span : 5), entry(span)));
    }

    /** A variable as often as not. */
    private static int entry(int span) {
        return roll(2) == 0 ? roll(span) : 8 + roll(4);
    }

    /** Now and then a number that a method may have to refuse, in place of the good one. */
    private static int odd(int good) {
        return roll(25) == 0 ? ODD[roll(ODD.length)] : good;
    }

    private static int roll(int sides) {
        dice = dice * 6364136223846793005L + 1442695040888963407L;
        return (int) ((dice >>> 33) % sides);
    }
}
