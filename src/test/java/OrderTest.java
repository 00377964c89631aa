/** ORDER, as del goes by it (promises 8 and 13), for VALUES of every kind. */
public final class OrderTest {
    /** VALUES in ORDER, no two of them the same. */
    static final String[] VALUES = {
        "null", "false", "true", "-9007199254740991", "-10", "-9", "-1", "0", "1", "2", "9", "10", "9007199254740990",
        "9007199254740991", "\"\"", "\"\\u0000\"", "\"\\n\"", "\"\\u001f\"", "\" \"", "\"\\\"\"", "\"0\"", "\"A\"",
        "\"\\\\\"", "\"a\"", "\"a\\u0000\"", "\"aa\"", "\"ab\"", "\"b\"", "\"\\u007f\"", "[]", "[null]",
        "[null,null]", "[1]", "[1,2]", "[1,3]", "[2]", "[\"1\"]", "[[]]", "[[1]]", "[{}]", "{}", "{\"a\":null}",
        "{\"a\":1}", "{\"a\":[]}", "{\"b\":1,\"a\":null}", "{\"a\":1,\"b\":0}", "{\"c\":0,\"a\":1}", "{\"b\":0}",
        "{\"b\":{\"x\":1}}", "{\"b\":{\"x\":1,\"y\":2}}", "{\"b\":{\"y\":3,\"x\":1}}",
    };

    public static void main(String[] args) {
        for (int i = 0; i < VALUES.length; i++) {
            for (int k = 0; k < VALUES.length; k++) {
                // Only once 5 is out there is something to be taken out of what comes first then.
                String first = "[{\"x\":" + VALUES[i] + ",\"start\":0,\"end\":1}]";
                String within = "[{\"start\":0,\"end\":1,\"x\":" + VALUES[k] + "},0,0]";
                String due = i > k ? "[[]]" : Bench.TYPE;
                Check.equal(VALUES[i] + " behind " + VALUES[k], due, Bench.left("[5,[7]]", "[" + first + "," + within + "]"));
                Check.equal(VALUES[i] + " behind " + VALUES[k], due, Bench.left("[5,[7]]", "[" + within + "," + first + "]"));
            }
        }
        Check.finish();
    }
}
