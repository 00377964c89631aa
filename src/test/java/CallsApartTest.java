import java.util.ArrayList;
import java.util.List;

/**
 * What one call leaves behind, or one that throws, is not seen by the next: every call of a list is
 * made behind every other on one object, and must do what it does on a new one.
 */
public final class CallsApartTest {
    private static final String DEEP = "[{\"b\":1,\"a\":".repeat(19) + "[5,6]" + "}]".repeat(19);
    private static final String MANY_STEPS = "[[" + Bench.times(60, "0", ",") + "],[" + Bench.times(60, "0", ",") + "]]";

    /** A call's name, and the VALUES that it is for. */
    private static final String[][] CALLS = {
        {"get", "{\"a\":[1,{\"b\":2}]}", "[\"a\",1,\"b\"]"},
        {"get", "[0,1,2,3]", "[{\"start\":1},{\"end\":2}]"},
        {"get", "\"a\\nbc\"", "[{\"start\":1,\"end\":3}]"},
        {"get", "[0,1]", "[7,true]"},
        {"get", "[0,1]", "[\"a\"]"},
        {"get", "[0,1,2,3]", "[{\"start\":1},\"a\"]"},
        {"get", DEEP, "[0,\"a\",0]"},
        {"set", "[0,1,2]", "[{\"start\":1,\"end\":1}]", "[8,9]"},
        {"set", "[0,1,2]", "[{\"start\":3}]", "[8,9]"},
        {"set", "[0,1,2]", "[{\"start\":1}]", "[]"},
        {"set", "[0,1,2]", "[{\"end\":1},2]", "9"},
        {"set", "[0,1,2]", "[1]", "9"},
        {"set", "{\"a\":1,\"b\":2}", "[\"a\"]", "{}"},
        {"set", "{\"a\":1}", "[\"b\",2,\"c\"]", "5"},
        {"set", "null", "[\"a\",1,{},0]", "5"},
        {"set", "null", "[{}]", "[5]"},
        {"set", "null", "[{}]", "5"},
        {"set", "[1]", "[{}]", "5"},
        {"set", "null", "[{},\"a\",0]", "5"},
        {"set", "[1,2]", "[{},\"a\",{}]", "[5]"},
        {"set", "[1,2]", "[{},\"a\",-1]", "[5]"},
        {"set", "[1,2]", "[0,\"a\"]", "5"},
        {"set", "[1,2]", "[-3]", "5"},
        {"set", "null", "[1000]", "5"},
        {"set", "null", "[" + Bench.times(61, "0", ",") + "]", "5"},
        {"set", "null", "[\"a\",\"b\",0,{\"start\":true}]", "5"},
        {"del", "[0,1,2,3]", "[[1],[0],[-1]]"},
        {"del", "[0,1,2,3]", "[[{\"start\":1,\"end\":3}]]"},
        {"del", "{\"a\":1,\"b\":{\"c\":[1]}}", "[[\"b\",\"c\",0],[\"a\"]]"},
        {"del", "[0,1,2,3]", "[[\"a\"],[0]]"},
        {"del", "[[[]]]", MANY_STEPS},
        {"del", "[0]", "[" + Bench.times(99, "[0]", ",") + "]"},
        {"del", "[0]", "[[" + Bench.times(101, "0", ",") + "]]"},
        {"del", "[0]", "[[]]"},
        {"all", "{\"a\":[1,{\"b\":2}]}"},
        {"all", "[" + Bench.times(701, "0", ",") + "]"},
        {"same", DEEP, DEEP},
        {"same", "{\"a\":1,\"b\":[{\"x\":0,\"y\":0}]}", "{\"b\":[{\"y\":0,\"x\":0}],\"a\":1}"},
        {"same", "{\"a\":{\"a\":{\"b\":1}}}", "{\"a\":{\"a\":{\"c\":1}}}"},
        {"read", "{\"a\":[1,\"\\u000a\"]}"},
        {"read", "{\"a\":[1,{\"b\":\"x"},
        {"read", "[".repeat(41)},
        {"read", "{\"a\":9007199254740992}"},
        {"read", ""},
    };

    public static void main(String[] args) {
        List<String> alone = new ArrayList<>();
        for (String[] call : CALLS) {
            alone.add(outcome(new Bench(), call));
        }
        for (String[] first : CALLS) {
            for (int n = 0; n < CALLS.length; n++) {
                Bench bench = new Bench();
                outcome(bench, first);
                String what = String.join(" ", CALLS[n]) + " behind " + String.join(" ", first);
                Check.equal(what, alone.get(n), outcome(bench, CALLS[n]));
            }
        }
        Check.finish();
    }

    /** What the call makes or throws; on the way registers 0 to 3 are changed. */
    private static String outcome(Bench bench, String[] call) {
        String outcome;
        if (call[0].equals("read")) {
            outcome = bench.tape(call[1]).read(3);
            return outcome + " " + bench.count(0) + " " + bench.count(2) + (outcome.startsWith("broken") ? "" : bench.text(3));
        }
        for (int n = 1; n < call.length; n++) {
            bench.put(n - 1, call[n]);
        }
        switch (call[0]) {
            case "get":
                outcome = bench.get(3, 0, 1);
                break;
            case "set":
                outcome = bench.set(3, 0, 1, 2);
                break;
            case "del":
                outcome = bench.del(3, 0, 1);
                break;
            case "all":
                outcome = bench.all(3, 0);
                break;
            default:
                return bench.same(0, 1);
        }
        return outcome.equals(Bench.FINE) ? bench.text(3) : outcome;
    }
}
