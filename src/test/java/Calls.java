/**
 * Calls on one new object, told as words: "need A.0.B", "condition 2 A 7", "isSolution 1.-.-.3", "next least".
 * The same words make a call and name it when its answer is not the due one.
 *
 * <p>Three parts with points are a statement or a pattern, whichever the method takes; A .. D are the variables'
 * entries; four parts are a code, with - for open.
 */
final class Calls {
    private final Due due;
    private final TripleJoins x = new TripleJoins();
    private final StringBuilder before = new StringBuilder();

    Calls(Due due, String... first) {
        this.due = due;
        for (String words : first) {
            answer(words);
        }
    }

    /** Makes the call and asks for this answer. */
    Calls is(String words, int want) {
        String run = before.toString();
        int got = answer(words);
        due.is(run + words, got, want);
        return this;
    }

    /** Makes the call; its answer is not looked at. */
    int answer(String words) {
        before.append(words).append("; ");
        String[] parts = words.split(" ");
        int[] given = new int[3];
        for (int i = 1; i < parts.length; i++) {
            given[i - 1] = number(parts[0], parts[i]);
        }
        return call(parts[0] + "/" + (parts.length - 1), given[0], given[1], given[2]);
    }

    private int call(String method, int a, int b, int c) {
        return switch (method) {
            case "state/1" -> x.state(a);
            case "sow/3" -> x.sow(a, b, c);
            case "retract/1" -> x.retract(a);
            case "need/1" -> x.need(a);
            case "extra/1" -> x.extra(a);
            case "condition/3" -> x.condition(a, b, c);
            case "drop/0" -> x.drop();
            case "clear/0" -> x.clear();
            case "statements/0" -> x.statements();
            case "matching/1" -> x.matching(a);
            case "solutions/0" -> x.solutions();
            case "next/1" -> x.next(a);
            case "isSolution/1" -> x.isSolution(a);
            case "values/1" -> x.values(a);
            case "having/2" -> x.having(a, b);
            case "pairs/2" -> x.pairs(a, b);
            case "vital/0" -> x.vital();
            default -> throw new IllegalArgumentException(method);
        };
    }

    private static int number(String method, String word) {
        if (word.equals("least")) {
            return Integer.MIN_VALUE;
        }
        if (word.equals("greatest")) {
            return Integer.MAX_VALUE;
        }
        String[] parts = word.split("\\.");
        if (parts.length == 4) {
            return code(word);
        }
        if (parts.length == 3) {
            boolean statement = method.equals("state") || method.equals("sow") || method.equals("retract");
            return statement ? Numbers.statement(part(parts[0]), part(parts[1]), part(parts[2]))
                : Numbers.pattern(part(parts[0]), part(parts[1]), part(parts[2]));
        }
        return part(word);
    }

    /** The code that words such as 1.-.-.3 tell. */
    static int code(String word) {
        String[] parts = word.split("\\.");
        return Numbers.code(part(parts[0]), part(parts[1]), part(parts[2]), part(parts[3]));
    }

    private static int part(String word) {
        return switch (word) {
            case "A" -> Numbers.A;
            case "B" -> Numbers.B;
            case "C" -> Numbers.C;
            case "D" -> Numbers.D;
            case "-" -> Numbers.OPEN;
            default -> Integer.parseInt(word);
        };
    }
}
