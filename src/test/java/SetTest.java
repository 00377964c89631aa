/** Promise 7: set. */
public final class SetTest {
    public static void main(String[] args) {
        checkPlaces();
        checkGrowing();
        checkTypes();
        checkRange();
        checkFirstFault();
        checkParts();
        checkPartsOfNull();
        checkPlacesInParts();
        checkSteps();
        checkRegisters();
        Check.finish();
    }

    private static void makes(String a, String p, String v, String due) {
        Check.equal("set " + p + " of " + a + " to " + v, due, Bench.made(a, p, v));
    }

    private static void checkPlaces() {
        makes("{\"a\":1}", "[]", "[2]", "[2]");
        makes("null", "[]", "{}", "{}");
        makes("{\"a\":1,\"b\":2,\"c\":3}", "[\"b\"]", "[]", "{\"a\":1,\"b\":[],\"c\":3}");
        makes("{\"a\":1,\"b\":2,\"c\":3}", "[\"c\"]", "null", "{\"a\":1,\"b\":2,\"c\":null}");
        makes("{\"a\":1}", "[\"b\"]", "2", "{\"a\":1,\"b\":2}");
        makes("{}", "[\"b\"]", "2", "{\"b\":2}");
        makes("{\"\":1}", "[\"\\n\\\"\"]", "\"\\u0001\"", "{\"\":1,\"\\n\\\"\":\"\\u0001\"}");
        makes("[1,2,3]", "[0]", "\"x\"", "[\"x\",2,3]");
        makes("[1,2,3]", "[1]", "{\"a\":[]}", "[1,{\"a\":[]},3]");
        makes("[1,2,3]", "[2]", "9", "[1,2,9]");
        makes("[1,2,3]", "[-1]", "9", "[1,2,9]");
        makes("[1,2,3]", "[-3]", "9", "[9,2,3]");
        makes("{\"a\":[1,{\"b\":2}]}", "[\"a\",1,\"b\"]", "9", "{\"a\":[1,{\"b\":9}]}");
        makes("{\"a\":[1,{\"b\":2}]}", "[\"a\",1,\"c\"]", "9", "{\"a\":[1,{\"b\":2,\"c\":9}]}");
    }

    private static void checkGrowing() {
        makes("null", "[\"a\"]", "1", "{\"a\":1}");
        makes("null", "[0]", "1", "[1]");
        makes("null", "[2]", "1", "[null,null,1]");
        makes("null", "[\"a\",1,\"b\",0]", "5", "{\"a\":[null,{\"b\":[5]}]}");
        makes("{\"a\":null,\"b\":1}", "[\"a\",\"x\"]", "5", "{\"a\":{\"x\":5},\"b\":1}");
        makes("[1,null,2]", "[1,1]", "5", "[1,[null,5],2]");
        makes("[]", "[0]", "5", "[5]");
        makes("[]", "[2]", "5", "[null,null,5]");
        makes("[1]", "[1]", "5", "[1,5]");
        makes("[1]", "[3]", "5", "[1,null,null,5]");
        makes("[1]", "[3,\"a\",0]", "5", "[1,null,null,{\"a\":[5]}]");
        makes("{\"a\":1}", "[\"b\",2,\"c\"]", "null", "{\"a\":1,\"b\":[null,null,{\"c\":null}]}");
        makes("[[[]]]", "[0,0,0,0]", "7", "[[[[7]]]]");
        makes("null", "[700]", "1", "[" + "null,".repeat(700) + "1]");
    }

    private static void checkTypes() {
        for (String path : new String[] {"null", "true", "false", "0", "\"a\"", "{}", "{\"start\":0}"}) {
            makes("[1]", path, "1", Bench.TYPE);
            makes("null", path, "1", Bench.TYPE);
        }
        for (String step : new String[] {"null", "true", "false", "[]", "[0]"}) {
            for (String a : new String[] {"null", "[1]", "{\"a\":1}", "\"a\"", "1", "true"}) {
                makes(a, "[" + step + "]", "[1]", Bench.TYPE);
            }
            makes("{}", "[\"a\"," + step + "]", "[1]", Bench.TYPE);
            makes("[]", "[4," + step + "]", "[1]", Bench.TYPE);
        }
        for (String a : new String[] {"false", "true", "1", "\"abc\""}) {
            for (String step : new String[] {"\"a\"", "0", "-1", "1001", "{}", "{\"start\":1}"}) {
                makes(a, "[" + step + "]", "[]", Bench.TYPE);
                makes("[" + a + "]", "[0," + step + "]", "\"x\"", Bench.TYPE);
            }
        }
        makes("[1]", "[\"a\"]", "1", Bench.TYPE);
        makes("{\"a\":1}", "[0]", "1", Bench.TYPE);
        makes("{\"a\":1}", "[1001]", "1", Bench.TYPE);
        makes("{\"a\":1}", "[-1]", "1", Bench.TYPE);
        makes("{\"a\":1}", "[{}]", "[]", Bench.TYPE);
    }

    private static void checkRange() {
        makes("[1,2]", "[-3]", "1", Bench.RANGE);
        makes("[]", "[-1]", "1", Bench.RANGE);
        makes("null", "[-1]", "1", Bench.RANGE);
        makes("{}", "[\"a\",-1]", "1", Bench.RANGE);
        makes("[null]", "[0,-1]", "1", Bench.RANGE);
        makes("[]", "[5,-1]", "1", Bench.RANGE);
        makes("[1]", "[-9007199254740991]", "1", Bench.RANGE);
        makes("[1]", "[1001]", "1", Bench.RANGE);
        makes("null", "[1001]", "1", Bench.RANGE);
        makes("null", "[9007199254740991]", "1", Bench.RANGE);
        makes("null", "[4294967296]", "1", Bench.RANGE);
        makes("[1]", "[4294967296]", "1", Bench.RANGE);
        makes("null", "[1000]", "1", Bench.LIMIT);
        String long1001 = "[" + Bench.times(1001, "0", ",") + "]";
        makes(long1001, "[1000]", "1", "[" + Bench.times(1000, "0", ",") + ",1]");
        makes(long1001, "[-1]", "1", "[" + Bench.times(1000, "0", ",") + ",1]");
        String long1002 = "[" + Bench.times(1002, "0", ",") + "]";
        makes(long1002, "[1001]", "1", Bench.RANGE);
        makes(long1002, "[-1]", "1", Bench.RANGE);
        makes(long1002, "[-2]", "1", "[" + Bench.times(1000, "0", ",") + ",1,0]");
        makes("[" + Bench.times(1000, "0", ",") + "]", "[1000]", "1", "[" + Bench.times(1000, "0", ",") + ",1]");
    }

    private static void checkFirstFault() {
        makes("[1]", "[-5,true]", "1", Bench.RANGE);
        makes("[1]", "[true,-5]", "1", Bench.TYPE);
        makes("null", "[\"a\",-1,true]", "1", Bench.RANGE);
        makes("null", "[\"a\",true,-1]", "1", Bench.TYPE);
        makes("null", "[1001,true]", "1", Bench.RANGE);
        makes("5", "[\"a\",-1]", "1", Bench.TYPE);
        makes("[1]", "[{\"start\":true},-1]", "1", Bench.TYPE);
        makes("null", "[{\"start\":true},-1]", "1", Bench.TYPE);
        makes("null", "[1000,1000,true]", "1", Bench.TYPE);
        makes("null", "[1000,1000,-1]", "1", Bench.RANGE);
        // Told behind what is behind it: a name behind a part.
        makes("null", "[{},\"a\",-1]", "1", Bench.RANGE);
        makes("null", "[{},\"a\",1001]", "1", Bench.RANGE);
        makes("null", "[{},\"a\",true]", "1", Bench.TYPE);
        makes("null", "[{},\"a\",1000]", "1", Bench.TYPE);
        for (String a : new String[] {"[1]", "[]", "[{\"a\":[1]}]"}) {
            makes(a, "[{},\"a\",-1]", "1", Bench.RANGE);
            makes(a, "[{\"start\":5},\"a\",1001]", "1", Bench.RANGE);
            makes(a, "[{},{},\"a\",\"b\",-1]", "[]", Bench.RANGE);
            makes(a, "[{},\"a\",0,-1,true]", "[]", Bench.RANGE);
            makes(a, "[{},\"a\",0,true,-1]", "[]", Bench.TYPE);
            makes(a, "[{},\"a\",{\"end\":true},-1]", "[]", Bench.TYPE);
            makes(a, "[{},\"a\",1000]", "[]", Bench.TYPE);
            makes(a, "[{},\"a\"]", "[]", Bench.TYPE);
            makes(a, "[{\"start\":true},\"a\",-1]", "[]", Bench.TYPE);
        }
        makes("\"abc\"", "[{},\"a\",-1]", "1", Bench.TYPE);
        makes("[{}]", "[{\"start\":5},3,\"b\",{},\"a\",-1]", "1", Bench.RANGE);
        // A part that must become what is no ARRAY is told last, too.
        makes("null", "[{},-1]", "1", Bench.RANGE);
    }

    private static void checkParts() {
        String a = "[0,1,2,3]";
        makes(a, "[{\"start\":1,\"end\":3}]", "[\"x\"]", "[0,\"x\",3]");
        makes(a, "[{\"start\":1,\"end\":3}]", "[5,6,7]", "[0,5,6,7,3]");
        makes(a, "[{\"start\":1,\"end\":3}]", "[]", "[0,3]");
        makes(a, "[{\"end\":2}]", "[]", "[2,3]");
        makes(a, "[{\"start\":2}]", "[]", "[0,1]");
        makes(a, "[{}]", "[]", "[]");
        makes(a, "[{}]", "[[9]]", "[[9]]");
        makes(a, "[{\"end\":0}]", "[9]", "[9,0,1,2,3]");
        makes(a, "[{\"start\":2,\"end\":2}]", "[9,8]", "[0,1,9,8,2,3]");
        makes(a, "[{\"start\":2,\"end\":2}]", "[]", a);
        makes(a, "[{\"start\":4}]", "[9]", "[0,1,2,3,9]");
        makes(a, "[{\"start\":4}]", "[]", a);
        makes(a, "[{\"start\":100}]", "[9]", "[0,1,2,3,9]");
        makes(a, "[{\"start\":3,\"end\":1}]", "[9]", "[0,1,2,9,3]");
        makes(a, "[{\"start\":-1}]", "[9]", "[0,1,2,9]");
        makes(a, "[{\"start\":-100,\"end\":-3}]", "[9]", "[9,1,2,3]");
        makes(a, "[{\"start\":-1,\"end\":-3}]", "[9]", "[0,1,2,9,3]");
        makes("[]", "[{}]", "[1,2]", "[1,2]");
        makes("[]", "[{\"start\":3,\"end\":5}]", "[]", "[]");
        makes("{\"a\":[1,2],\"b\":3}", "[\"a\",{\"start\":1}]", "[4,5]", "{\"a\":[1,4,5],\"b\":3}");
        makes(a, "[{\"start\":1},{\"start\":1,\"end\":2}]", "[8,9]", "[0,1,8,9,3]");
        makes(a, "[{\"start\":1,\"end\":3},{\"start\":5}]", "[9]", "[0,1,2,9,3]");
        makes(a, "[{\"start\":1,\"end\":3},{\"end\":-1}]", "[]", "[0,2,3]");
        for (String v : new String[] {"null", "true", "1", "\"ab\"", "{}"}) {
            makes(a, "[{\"start\":1}]", v, Bench.TYPE);
            makes(a, "[{\"start\":1},{}]", v, Bench.TYPE);
            makes("null", "[{}]", v, Bench.TYPE);
            makes("\"abc\"", "[{\"start\":1}]", v, Bench.TYPE);
        }
        makes("\"abc\"", "[{\"start\":1}]", "[]", Bench.TYPE);
        for (String bound : new String[] {"true", "false", "\"1\"", "[]", "{}"}) {
            makes(a, "[{\"start\":" + bound + "}]", "[]", Bench.TYPE);
            makes(a, "[{\"end\":" + bound + "}]", "[]", Bench.TYPE);
            makes("null", "[{\"start\":" + bound + "}]", "[]", Bench.TYPE);
            makes("null", "[{\"start\":1,\"end\":" + bound + "}]", "[]", Bench.TYPE);
        }
    }

    private static void checkPartsOfNull() {
        makes("null", "[{\"start\":2,\"end\":4}]", "[1,2]", "[1,2]");
        makes("null", "[{}]", "[]", "[]");
        makes("null", "[{\"start\":2},{\"end\":1}]", "[1]", "[1]");
        makes("{\"a\":null}", "[\"a\",{\"start\":-1}]", "[1]", "{\"a\":[1]}");
        makes("{}", "[\"a\",{\"start\":1}]", "[1]", "{\"a\":[1]}");
        makes("null", "[{\"start\":2},1]", "7", "[null,7]");
        makes("null", "[{\"start\":2},{},0,\"a\"]", "7", "[{\"a\":7}]");
        makes("null", "[{},\"a\"]", "7", Bench.TYPE);
        makes("null", "[{},{},\"a\",0]", "[]", Bench.TYPE);
        makes("null", "[{},0,{},\"a\"]", "[]", Bench.TYPE);
        makes("null", "[{},-1]", "7", Bench.RANGE);
        makes("null", "[{},1001]", "7", Bench.RANGE);
        makes("null", "[\"a\",{}]", "7", Bench.TYPE);
    }

    private static void checkPlacesInParts() {
        String a = "[0,1,2,3]";
        makes(a, "[{\"start\":1,\"end\":3},0]", "9", "[0,9,2,3]");
        makes(a, "[{\"start\":1,\"end\":3},1]", "9", "[0,1,9,3]");
        makes(a, "[{\"start\":1,\"end\":3},-1]", "9", "[0,1,9,3]");
        makes(a, "[{\"start\":1,\"end\":3},-2]", "9", "[0,9,2,3]");
        makes(a, "[{\"start\":1,\"end\":3},-3]", "9", Bench.RANGE);
        makes(a, "[{\"start\":1,\"end\":3},2]", "9", "[0,1,2,9,3]");
        makes(a, "[{\"start\":1,\"end\":3},4]", "9", "[0,1,2,null,null,9,3]");
        makes(a, "[{\"start\":1,\"end\":3},1001]", "9", Bench.RANGE);
        makes(a, "[{\"start\":2},2]", "9", "[0,1,2,3,9]");
        makes(a, "[{\"start\":2},3]", "9", "[0,1,2,3,null,9]");
        makes(a, "[{\"start\":4},0]", "9", "[0,1,2,3,9]");
        makes(a, "[{\"end\":0},1]", "9", "[null,9,0,1,2,3]");
        makes(a, "[{\"start\":3,\"end\":1},0]", "9", "[0,1,2,9,3]");
        makes(a, "[{\"start\":3,\"end\":1},-1]", "9", Bench.RANGE);
        makes(a, "[{\"start\":1,\"end\":3},2,\"a\",1]", "9", "[0,1,2,{\"a\":[null,9]},3]");
        makes("[[1],[2],[3]]", "[{\"start\":1},0,1]", "9", "[[1],[2,9],[3]]");
        makes("[[1,2,3]]", "[{},0,{\"start\":1,\"end\":2},0]", "9", "[[1,9,3]]");
        makes("[[1,2,3]]", "[{},0,{\"start\":1,\"end\":2},1]", "9", "[[1,2,9,3]]");
        makes("[]", "[{},1]", "9", "[null,9]");
        makes(a, "[{\"start\":1},\"a\"]", "[]", Bench.TYPE);
        makes("[null,1]", "[{},0,\"a\"]", "2", "[{\"a\":2},1]");
    }

    private static void checkSteps() {
        String hundred = "[" + Bench.times(100, "0", ",") + "]";
        String more = "[" + Bench.times(101, "0", ",") + "]";
        makes("null", more, "1", Bench.RANGE);
        makes("true", more, "1", Bench.RANGE);
        makes("true", hundred, "1", Bench.TYPE);
        makes("null", "[true," + Bench.times(100, "0", ",") + "]", "1", Bench.RANGE);
        makes("null", "[true," + Bench.times(99, "0", ",") + "]", "1", Bench.TYPE);
        makes("null", "{\"a\":" + more + "}", "1", Bench.TYPE);
        makes("null", hundred, "1", Bench.LIMIT);
        makes("[1]", "[" + Bench.times(99, "{}", ",") + ",0]", "2", "[2]");
        makes("[1]", "[" + Bench.times(100, "{}", ",") + ",0]", "2", Bench.RANGE);
    }

    private static void checkRegisters() {
        Bench bench = new Bench().put(0, "{\"a\":[1]}").put(1, "[\"a\",0]").put(2, "5");
        for (int wrong : new int[] {-1, 8, Integer.MAX_VALUE, Integer.MIN_VALUE}) {
            Check.equal("to", Bench.ARGUMENT, bench.set(wrong, 0, 1, 2));
            Check.equal("a", Bench.ARGUMENT, bench.set(3, wrong, 1, 2));
            Check.equal("p", Bench.ARGUMENT, bench.set(3, 0, wrong, 2));
            Check.equal("v", Bench.ARGUMENT, bench.set(3, 0, 1, wrong));
            Check.equal("v ahead of a type", Bench.ARGUMENT, bench.set(3, 0, 2, wrong));
        }
        Check.equal("no reason is told", 0, bench.x.count(3));
        Check.equal("refused", Bench.TYPE, bench.set(0, 0, 2, 2));
        Check.equal("nothing is changed", "{\"a\":[1]}", bench.text(0));
        Check.equal("to another", Bench.FINE, bench.set(3, 0, 1, 2));
        Check.equal("a stays", "{\"a\":[1]}", bench.text(0));
        Check.equal("p stays", "[\"a\",0]", bench.text(1));
        Check.equal("v stays", "5", bench.text(2));
        Check.equal("to", "{\"a\":[5]}", bench.text(3));
        Check.equal("a into itself", Bench.FINE, bench.set(0, 0, 1, 0));
        Check.equal("a in itself", "{\"a\":[{\"a\":[1]}]}", bench.text(0));
        bench.put(4, "[1]");
        Check.equal("all one", Bench.FINE, bench.set(4, 4, 4, 4));
        Check.equal("all one", "[1,[1]]", bench.text(4));
    }
}
