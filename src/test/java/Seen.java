import java.util.function.Consumer;

/**
 * All that can be told from outside of an object after some calls, as one text. Each part is asked of an object of
 * its own, made by the same calls: no part disturbs another one, and no object is used for more than 512 calls.
 */
final class Seen {
    private Seen() {
    }

    static String after(String... calls) {
        StringBuilder seen = new StringBuilder();
        part(seen, calls, x -> theSet(seen, x));
        part(seen, calls, x -> theSolutions(seen, x));
        part(seen, calls, x -> theCounts(seen, x));
        part(seen, calls, x -> theNeeded(seen, x));
        part(seen, calls, x -> theConditions(seen, x));
        part(seen, calls, x -> ask(seen, x, "extra 0"));
        part(seen, calls, x -> ask(seen, x, "clear"));
        return seen.toString();
    }

    private static void part(StringBuilder seen, String[] calls, Consumer<Calls> asking) {
        asking.accept(new Calls(null, calls));
        seen.append('\n');
    }

    private static int ask(StringBuilder seen, Calls x, String words) {
        int answer = x.answer(words);
        seen.append(words).append(": ").append(answer).append("; ");
        return answer;
    }

    private static void theSet(StringBuilder seen, Calls x) {
        ask(seen, x, "statements");
        for (int statement = 0; statement < 256; statement++) {
            ask(seen, x, "matching " + statement / 32 + "." + statement / 8 % 4 + "." + statement % 8);
        }
    }

    private static void theSolutions(StringBuilder seen, Calls x) {
        ask(seen, x, "solutions");
        int code = -1;
        for (int i = 0; i < 300; i++) {
            code = ask(seen, x, "next " + code);
            if (code < 0) {
                return;
            }
        }
    }

    private static void theCounts(StringBuilder seen, Calls x) {
        ask(seen, x, "vital");
        for (int v = 0; v < 4; v++) {
            ask(seen, x, "values " + v);
            for (int w = 0; w < 4; w++) {
                ask(seen, x, "pairs " + v + " " + w);
            }
        }
    }

    /** The needed patterns from the last to the first, by what is left when each has gone. */
    private static void theNeeded(StringBuilder seen, Calls x) {
        for (int i = 0; i < 6; i++) {
            ask(seen, x, "drop");
            ask(seen, x, "solutions");
            ask(seen, x, "next -1");
        }
    }

    private static void theConditions(StringBuilder seen, Calls x) {
        for (int i = 0; i < 5; i++) {
            ask(seen, x, "condition 0 0 0");
        }
    }
}
