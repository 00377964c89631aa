/** ORDER, as del goes by it (promises 8 and 13), for VALUES of every kind. */
public final class OrderTest {
    /** VALUES in ORDER, no two of them the same. */
    static final String[] VALUES = {
        "null", "false", "true", "-9007199254740991", "-10", "-9", "-1", "0", "1", "2", "9", "10", "9007199254740990",
        "9007199254740991", "\"\"", "\"\\u0000\"", "\"\\n\"", "\"\\u001f\"", "\" \"", "\"\\\"\"", "\"0\"", "\"A\"",
        "\"\\\\\"", "\"a\"", "\"a\\u0000\"", "\"aa\"", "\"ab\"", "\"b\"", "\"\\u007f\"", "[]", "[null]",
        "[null,null]", "[1]", "[1,2]", "[1,3]", "[2]", "[\"1\"]", "[[]]", "[[1]]", "[{}]", "{}", "{\"\":9}",
        "{\"z\":1,\"\":9}", "{\"a\":null}", "{\"a\":1}", "{\"a\":[]}", "{\"a\":{}}", "{\"b\":1,\"a\":null}",
        "{\"a\":1,\"b\":0}", "{\"b\":0,\"c\":0,\"a\":0}", "{\"c\":0,\"a\":1}", "{\"c\":1,\"a\":1}", "{\"b\":0}",
        "{\"b\":{\"x\":1}}", "{\"b\":{\"x\":1,\"y\":2}}", "{\"b\":{\"y\":3,\"x\":1}}", "{\"b\":0,\"c\":0}",
    };

    public static void main(String[] args) {
        for (int i = 0; i < VALUES.length; i++) {
            for (int k = 0; k < VALUES.length; k++) {
                compares(VALUES[i], VALUES[k], i > k);
            }
        }
        checkCharacters();
        checkBeginnings();
        Check.finish();
    }

    private static void compares(String one, String other, boolean behind) {
        // Only once 5 is out there is something to be taken out of what comes first then.
        String first = "[{\"x\":" + one + ",\"start\":0,\"end\":1}]";
        String within = "[{\"start\":0,\"end\":1,\"x\":" + other + "},0,0]";
        String due = behind ? "[[]]" : Bench.TYPE;
        Check.equal(one + " behind " + other, due, Bench.left("[5,[7]]", "[" + first + "," + within + "]"));
        Check.equal(one + " behind " + other, due, Bench.left("[5,[7]]", "[" + within + "," + first + "]"));
    }

    /** "STRINGS (character by character)": each of the 128 and the next, however they are PRINTED. */
    private static void checkCharacters() {
        for (int c = 0; c < 127; c++) {
            String low = String.format("\\u%04x", c);
            String high = String.format("\\u%04x", c + 1);
            compares("\"" + low + "\"", "\"" + high + "\"", false);
            compares("\"" + high + "\"", "\"" + low + "\"", true);
            compares("\"x" + high + "\"", "\"x" + low + low + "\"", true);
            compares("{\"" + low + "\":1}", "{\"" + high + "\":0}", false);
            compares("{\"" + high + "\":0}", "{\"" + low + "\":1}", true);
        }
    }

    /** "a beginning before the longer one", of ARRAYS, STRINGS and names. */
    private static void checkBeginnings() {
        for (int n = 0; n < 5; n++) {
            String elements = "[" + Bench.times(n, "9", ",") + "]";
            String more = "[" + Bench.times(n + 1, "9", ",") + "]";
            compares(more, elements, true);
            compares(elements, more, false);
            compares("\"" + "z".repeat(n + 1) + "\"", "\"" + "z".repeat(n) + "\"", true);
            compares("\"" + "z".repeat(n) + "\"", "\"" + "z".repeat(n + 1) + "\"", false);
            compares(names(n + 1, 0), names(n, 9), true);
            compares(names(n, 9), names(n + 1, 0), false);
        }
    }

    /** An OBJECT with the names a, b, .. in the opposite order. */
    private static String names(int n, int value) {
        StringBuilder all = new StringBuilder();
        for (int k = n - 1; k >= 0; k--) {
            all.append(all.length() == 0 ? "" : ",").append('"').append((char) ('a' + k)).append("\":").append(value);
        }
        return "{" + all + "}";
    }
}
