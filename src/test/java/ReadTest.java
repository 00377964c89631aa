/** Promise 4: read; JSON and where it is broken. */
public final class ReadTest {
    public static void main(String[] args) {
        checkValues();
        checkStrings();
        checkBroken();
        checkBrokenStrings();
        checkNames();
        checkNumbers();
        checkDepth();
        checkState();
        checkLong();
        Check.finish();
    }

    private static void reads(String json, String printed) {
        Bench bench = new Bench().tape(json);
        Check.equal("read " + json, String.valueOf(printed.length()), bench.read(3));
        Check.equal("value of " + json, printed, bench.text(3));
        Check.equal("place after " + json, -1, bench.x.count(2));
        Check.equal("tape after " + json, 0, bench.x.count(0));
    }

    private static void breaks(String json, int place) {
        Bench bench = new Bench().put(3, "[7]").tape(json);
        Check.equal("read " + json, "broken at " + place, bench.read(3));
        Check.equal("register after " + json, "[7]", bench.text(3));
        Check.equal("tape after " + json, 0, bench.x.count(0));
    }

    private static void checkValues() {
        reads("null", "null");
        reads("true", "true");
        reads("false", "false");
        reads("0", "0");
        reads("-0", "0");
        reads("-17", "-17");
        reads("\"\"", "\"\"");
        reads("[]", "[]");
        reads("{}", "{}");
        reads("[ ]", "[]");
        reads("{\t}", "{}");
        reads(" \t\r\n[ 1 ,\t-2\r,\n\"a\" , null,true,false , [ [ ] ] ] \n", "[1,-2,\"a\",null,true,false,[[]]]");
        reads("{ \"b\" : 1 , \"a\" : { \"b\" : [ ] } }", "{\"b\":1,\"a\":{\"b\":[]}}");
        reads("{\"\":{},\"a\":null}", "{\"\":{},\"a\":null}");
    }

    private static void checkStrings() {
        reads("\" !#[]^_`{|}~/\"", "\" !#[]^_`{|}~/\"");
        reads("\"\\\"\\\\\\/\\b\\f\\n\\r\\t\"", "\"\\\"\\\\/\\b\\f\\n\\r\\t\"");
        reads("\"\\u0041\\u0022\\u005c\\u002F\\u002f\"", "\"A\\\"\\\\//\"");
        reads("\"\\u0008\\u0009\\u000a\\u000C\\u000d\"", "\"\\b\\t\\n\\f\\r\"");
        reads("\"\\u0000\\u0001\\u000b\\u000E\\u001F\\u007F\"", "\"\\u0000\\u0001\\u000b\\u000e\\u001f\\u007f\"");
        reads("{\"\\u0061\\n\":\"\\u0020\\u007e\"}", "{\"a\\n\":\" ~\"}");
    }

    private static void checkBroken() {
        breaks("", 0);
        breaks("  ", 2);
        breaks("x", 0);
        breaks("nul", 3);
        breaks("nulL", 3);
        breaks("nil", 1);
        breaks("tru ", 3);
        breaks("fals", 4);
        breaks("nulll", 4);
        breaks("1 2", 2);
        breaks("[] []", 3);
        breaks("]", 0);
        breaks("}", 0);
        breaks(",", 0);
        breaks(":", 0);
        breaks("[", 1);
        breaks("[1", 2);
        breaks("[1,", 3);
        breaks("[1,]", 3);
        breaks("[,1]", 1);
        breaks("[1 2]", 3);
        breaks("[1:2]", 2);
        breaks("[1}", 2);
        breaks("[1,,2]", 3);
        breaks("{", 1);
        breaks("{1:2}", 1);
        breaks("{]", 1);
        breaks("{\"a\"", 4);
        breaks("{\"a\"}", 4);
        breaks("{\"a\",1}", 4);
        breaks("{\"a\" 1}", 5);
        breaks("{\"a\":", 5);
        breaks("{\"a\":}", 5);
        breaks("{\"a\":1", 6);
        breaks("{\"a\":1]", 6);
        breaks("{\"a\":1,}", 7);
        breaks("{\"a\":1,", 7);
        breaks("{\"a\":1 \"b\":2}", 7);
        breaks("{,\"a\":1}", 1);
        breaks("\u000b1", 0);
        breaks("\f1", 0);
        breaks("1\u0000", 1);
        breaks("[1]\u00ff", 3);
        breaks("'a'", 0);
    }

    private static void checkBrokenStrings() {
        breaks("\"", 1);
        breaks("\"abc", 4);
        breaks("\"a\nb\"", 2);
        breaks("\"a\u001fb\"", 2);
        breaks("\"a\u007fb\"", 2);
        breaks("\"a\u0080b\"", 2);
        breaks("\"a\u00ff\"", 2);
        breaks("\"\\", 2);
        breaks("\"\\x\"", 2);
        breaks("\"\\N\"", 2);
        breaks("\"\\0\"", 2);
        breaks("\"\\U0041\"", 2);
        breaks("\"\\u", 3);
        breaks("\"\\u\"", 3);
        breaks("\"\\u0", 4);
        breaks("\"\\u00g0\"", 5);
        breaks("\"\\u004\"", 6);
        breaks("\"\\u004G\"", 6);
        breaks("\"\\u-041\"", 3);
        breaks("\"ab\\u0080\"", 3);
        breaks("\"\\u00ff\"", 1);
        breaks("\"\\u1000\"", 1);
        breaks("\"\\uFFFF\"", 1);
        breaks("\"\\uFFF", 6);
        breaks("\"\\ufffx\"", 6);
        breaks("\"\\u0080", 1);
        breaks("[\"\\u0041\\u0100\"]", 8);
    }

    private static void checkNames() {
        breaks("{\"a\":1,\"a\":2}", 7);
        breaks("{\"a\":1, \"b\":2, \"\\u0061\" 2}", 15);
        breaks("{\"a\":1,\"a", 9);
        breaks("{\"a\":1,\"a\"", 7);
        breaks("{\"\":1,\"\":2}", 6);
        breaks("{\"x\":{\"a\":1,\"b\":2,\"a\":3}}", 18);
        breaks("[{\"\\n\":1,\"\\u000a\":2}]", 9);
        reads("{\"a\":{\"a\":{\"a\":1}}}", "{\"a\":{\"a\":{\"a\":1}}}");
        reads("[{\"a\":1},{\"a\":1}]", "[{\"a\":1},{\"a\":1}]");
        reads("{\"a\":\"b\",\"b\":\"a\",\"ab\":{\"c\":1},\"c\":[\"c\"]}", "{\"a\":\"b\",\"b\":\"a\",\"ab\":{\"c\":1},\"c\":[\"c\"]}");
        reads("{\"a\\\"\":1,\"a\":2,\"a\\\\\":3}", "{\"a\\\"\":1,\"a\":2,\"a\\\\\":3}");
        reads("{\"\\\"x\":1,\"\\\"y\":2}", "{\"\\\"x\":1,\"\\\"y\":2}");
        breaks("{\"\\\"x\":1,\"\\\"x\":2}", 9);
        breaks("{\"a\\\\\":1,\"a\":2,\"a\\\\\":3}", 15);
    }

    private static void checkNumbers() {
        reads("9007199254740991", "9007199254740991");
        reads("-9007199254740991", "-9007199254740991");
        breaks("9007199254740992", 0);
        breaks("-9007199254740992", 0);
        breaks(" 90071992547409910", 1);
        breaks("[1,-99999999999999999999999999999999999]", 3);
        breaks("[1,18446744073709551617]", 3);
        breaks("9007199254740992x", 0);
        breaks("01", 1);
        breaks("-01", 2);
        breaks("00", 1);
        breaks("-", 1);
        breaks("--1", 1);
        breaks("-a", 1);
        breaks("- 1", 1);
        breaks("+1", 0);
        breaks("1.5", 1);
        breaks("1e5", 1);
        breaks(".5", 0);
        breaks("[0,00]", 4);
        reads("[-0,0,10,100]", "[0,0,10,100]");
    }

    private static void checkDepth() {
        reads("[".repeat(40) + "]".repeat(40), "[".repeat(40) + "]".repeat(40));
        breaks("[".repeat(41) + "]".repeat(41), 40);
        breaks("[".repeat(41), 40);
        breaks(" " + "[".repeat(100), 41);
        String objects = "{\"a\":".repeat(40) + "1" + "}".repeat(40);
        reads(objects, objects);
        breaks("{\"a\":".repeat(41) + "1" + "}".repeat(41), 200);
        breaks("{\"a\":".repeat(40) + "[]" + "}".repeat(40), 200);
        String beside = "[" + Bench.times(20, "[[]]", ",") + "]";
        reads(beside, beside);
        breaks("[" + "[".repeat(39) + "]".repeat(39) + ",[" + "{\"a\":".repeat(39), 81 + 5 * 38);
    }

    private static void checkState() {
        Bench bench = new Bench().put(0, "1").tape("[2");
        for (int r : new int[] {-1, 8, Integer.MAX_VALUE, Integer.MIN_VALUE}) {
            Check.equal("read(" + r + ")", Bench.ARGUMENT, bench.read(r));
        }
        Check.equal("the tape after a wrong register", 2, bench.x.count(0));
        Check.equal("the place after a wrong register", -1, bench.x.count(2));
        Check.equal("broken", "broken at 2", bench.read(0));
        bench.tape("5");
        Check.equal("a wrong register", Bench.ARGUMENT, bench.read(8));
        Check.equal("the place is the latest read's that was one", 2, bench.x.count(2));
        Check.equal("read", "1", bench.read(7));
        Check.equal("the place is gone", -1, bench.x.count(2));
        Check.equal("register 7", "5", bench.text(7));
        Check.equal("register 0", "1", bench.text(0));
        bench.x.print(7);
        bench.tape("[1,2]").x.read(7);
        Check.equal("read leaves the result", "5", bench.result());
    }

    private static void checkLong() {
        String digits = "[" + Bench.times(2047, "7", ",") + "]";
        Bench bench = new Bench().tape(digits + " ");
        Check.equal("a tape of 4096", "4095", bench.read(0));
        Check.equal("all of it", digits, bench.text(0));
        String text = "\"" + "z".repeat(4094) + "\"";
        Check.equal("a string of 4096 bytes", "4096", bench.tape(text).read(0));
        Check.equal("all of it", text, bench.text(0));
        bench = new Bench();
        Check.equal("a string without an end", "broken at 4096", bench.tape(text.replace('\"', 'z').replaceFirst("z", "\"")).read(0));
        StringBuilder names = new StringBuilder("{");
        for (int n = 0; n < 400; n++) {
            names.append(n == 0 ? "" : ",").append("\"n").append(n).append("\":").append(n % 10);
        }
        String object = names + "}";
        reads(object, object);
        breaks(names + ",\"n399\":0}", names.length() + 1);
    }
}
