/** Promise 6: get. */
public final class GetTest {
    public static void main(String[] args) {
        checkSteps();
        checkNull();
        checkTypes();
        checkParts();
        checkPartsOfParts();
        checkStringParts();
        checkBounds();
        checkRegisters();
        Check.finish();
    }

    private static void leads(String a, String p, String due) {
        Check.equal("get " + p + " of " + a, due, Bench.gotten(a, p));
    }

    private static void checkSteps() {
        leads("{\"a\":[1,{\"b\":2}]}", "[]", "{\"a\":[1,{\"b\":2}]}");
        leads("{\"a\":[1,{\"b\":2}]}", "[\"a\"]", "[1,{\"b\":2}]");
        leads("{\"a\":[1,{\"b\":2}]}", "[\"a\",1,\"b\"]", "2");
        leads("{\"a\":1,\"b\":2,\"ab\":3,\"\":4}", "[\"ab\"]", "3");
        leads("{\"a\":1,\"b\":2,\"ab\":3,\"\":4}", "[\"\"]", "4");
        leads("{\"a\":1}", "[\"b\"]", "null");
        leads("{\"a\\\"\":1,\"a\":2}", "[\"a\"]", "2");
        leads("{\"\\\"x\":1,\"\\\"y\":2}", "[\"\\\"y\"]", "2");
        leads("{\"\\n\":5}", "[\"\\u000a\"]", "5");
        leads("[\"x\",[],{}]", "[0]", "\"x\"");
        leads("[\"x\",[],{}]", "[2]", "{}");
        leads("[\"x\",[],{}]", "[-1]", "{}");
        leads("[\"x\",[],{}]", "[-3]", "\"x\"");
        leads("[\"x\",[],{}]", "[3]", "null");
        leads("[\"x\",[],{}]", "[-4]", "null");
        leads("[]", "[0]", "null");
        leads("[]", "[-1]", "null");
        leads("[1,2]", "[9007199254740991]", "null");
        leads("[1,2]", "[-9007199254740991]", "null");
        leads("[1,2]", "[4294967296]", "null");
        leads("[1,2]", "[-4294967297]", "null");
        leads("[\"],[\",\"\\\",\\\\\",3]", "[2]", "3");
        leads("[" + Bench.times(1500, "1", ",") + ",2]", "[1500]", "2");
        leads("7", "[]", "7");
        String longest = "\"" + "x".repeat(4094) + "\"";
        leads(longest, "[]", longest);
        leads("[\"" + "x".repeat(4092) + "\"]", "[-1]", "\"" + "x".repeat(4092) + "\"");
    }

    private static void checkNull() {
        leads("null", "[]", "null");
        leads("null", "[\"a\"]", "null");
        leads("null", "[0]", "null");
        leads("null", "[{}]", "null");
        leads("null", "[true]", "null");
        leads("null", "[null,[],false]", "null");
        leads("null", "[{\"start\":\"x\"}]", "null");
        leads("{\"a\":1}", "[\"b\",\"c\",0,true,{\"end\":[]}]", "null");
        leads("[null]", "[0,true]", "null");
        leads("[1]", "[5,\"a\",[]]", "null");
        leads("{\"a\":null}", "[\"a\"]", "null");
        leads("null", "[" + Bench.times(200, "1", ",") + "]", "null");
    }

    private static void checkTypes() {
        for (String path : new String[] {"null", "true", "false", "1", "\"a\"", "{}", "{\"start\":0}"}) {
            leads("[1]", path, Bench.TYPE);
            leads("null", path, Bench.TYPE);
        }
        for (String step : new String[] {"null", "true", "false", "[]", "[1]"}) {
            leads("[1]", "[" + step + "]", Bench.TYPE);
            leads("{\"a\":1}", "[" + step + "]", Bench.TYPE);
            leads("\"a\"", "[" + step + "]", Bench.TYPE);
            leads("5", "[" + step + "]", Bench.TYPE);
            leads("true", "[" + step + "]", Bench.TYPE);
        }
        for (String value : new String[] {"true", "false", "1"}) {
            leads(value, "[\"a\"]", Bench.TYPE);
            leads(value, "[0]", Bench.TYPE);
            leads(value, "[{}]", Bench.TYPE);
        }
        leads("{\"a\":1}", "[0]", Bench.TYPE);
        leads("{\"a\":1}", "[{}]", Bench.TYPE);
        leads("[1]", "[\"a\"]", Bench.TYPE);
        leads("\"abc\"", "[0]", Bench.TYPE);
        leads("\"abc\"", "[\"a\"]", Bench.TYPE);
        leads("{\"a\":{\"b\":1}}", "[\"a\",\"b\",\"c\"]", Bench.TYPE);
        leads("{\"a\":false}", "[\"a\",\"b\"]", Bench.TYPE);
    }

    private static void checkParts() {
        String a = "[0,[1,1],\"2\",{\"3\":3},4]";
        leads(a, "[{}]", a);
        leads(a, "[{\"x\":1}]", a);
        leads(a, "[{\"start\":null,\"end\":null}]", a);
        leads(a, "[{\"start\":1,\"end\":3}]", "[[1,1],\"2\"]");
        leads(a, "[{\"end\":3,\"other\":[],\"start\":1}]", "[[1,1],\"2\"]");
        leads(a, "[{\"start\":3}]", "[{\"3\":3},4]");
        leads(a, "[{\"end\":1}]", "[0]");
        leads(a, "[{\"start\":-2}]", "[{\"3\":3},4]");
        leads(a, "[{\"end\":-4}]", "[0]");
        leads(a, "[{\"start\":-4,\"end\":-1}]", "[[1,1],\"2\",{\"3\":3}]");
        leads(a, "[{\"start\":-100,\"end\":2}]", "[0,[1,1]]");
        leads(a, "[{\"start\":3,\"end\":100}]", "[{\"3\":3},4]");
        leads(a, "[{\"start\":3,\"end\":2}]", "[]");
        leads(a, "[{\"start\":2,\"end\":2}]", "[]");
        leads(a, "[{\"start\":5}]", "[]");
        leads(a, "[{\"start\":9}]", "[]");
        leads(a, "[{\"end\":-5}]", "[]");
        leads(a, "[{\"end\":-9}]", "[]");
        leads(a, "[{\"start\":-9007199254740991,\"end\":9007199254740991}]", a);
        leads(a, "[{\"start\":4294967296}]", "[]");
        leads("[]", "[{}]", "[]");
        leads("[]", "[{\"start\":1,\"end\":-1}]", "[]");
        leads("{\"a\":[1,2,3]}", "[\"a\",{\"start\":1}]", "[2,3]");
    }

    private static void checkPartsOfParts() {
        String a = "[0,1,2,3,4,5]";
        leads(a, "[{\"start\":1,\"end\":5},{\"start\":1,\"end\":3}]", "[2,3]");
        leads(a, "[{\"start\":1,\"end\":5},{\"start\":-2}]", "[3,4]");
        leads(a, "[{\"start\":1,\"end\":5},{\"end\":-1},{\"start\":1}]", "[2,3]");
        leads(a, "[{\"start\":2,\"end\":4},{\"start\":3}]", "[]");
        leads(a, "[{\"start\":4,\"end\":2},{}]", "[]");
        leads(a, "[{\"start\":2,\"end\":4},0]", "2");
        leads(a, "[{\"start\":2,\"end\":4},1]", "3");
        leads(a, "[{\"start\":2,\"end\":4},2]", "null");
        leads(a, "[{\"start\":2,\"end\":4},-1]", "3");
        leads(a, "[{\"start\":2,\"end\":4},-2]", "2");
        leads(a, "[{\"start\":2,\"end\":4},-3]", "null");
        leads(a, "[{\"start\":2,\"end\":4},2,true]", "null");
        leads(a, "[{\"start\":2,\"end\":4},\"a\"]", Bench.TYPE);
        leads(a, "[{\"start\":2,\"end\":4},true]", Bench.TYPE);
        leads("[[1],[2],[[3,4]]]", "[{\"start\":1},1,0,{\"start\":1},0]", "4");
    }

    private static void checkStringParts() {
        leads("\"abcdef\"", "[{\"start\":1,\"end\":3}]", "\"bc\"");
        leads("\"abcdef\"", "[{}]", "\"abcdef\"");
        leads("\"abcdef\"", "[{\"start\":-2}]", "\"ef\"");
        leads("\"abcdef\"", "[{\"end\":-4}]", "\"ab\"");
        leads("\"abcdef\"", "[{\"start\":3,\"end\":1}]", "\"\"");
        leads("\"abcdef\"", "[{\"start\":1,\"end\":5},{\"start\":1,\"end\":-1}]", "\"cd\"");
        leads("\"abc\"", "[{\"start\":5}]", "\"\"");
        leads("\"abc\"", "[{\"start\":-5,\"end\":50}]", "\"abc\"");
        leads("\"\"", "[{}]", "\"\"");
        leads("\"a\\\"\\\\\\n\\u0001\\u007fz\"", "[{\"start\":1,\"end\":2}]", "\"\\\"\"");
        leads("\"a\\\"\\\\\\n\\u0001\\u007fz\"", "[{\"start\":2,\"end\":4}]", "\"\\\\\\n\"");
        leads("\"a\\\"\\\\\\n\\u0001\\u007fz\"", "[{\"start\":4,\"end\":6}]", "\"\\u0001\\u007f\"");
        leads("\"a\\\"\\\\\\n\\u0001\\u007fz\"", "[{\"start\":-1}]", "\"z\"");
        leads("\"a\\\"\\\\\\n\\u0001\\u007fz\"", "[{\"end\":-6}]", "\"a\"");
        leads("\"abc\"", "[{\"start\":1},0]", Bench.TYPE);
        leads("\"abc\"", "[{\"start\":1},\"a\"]", Bench.TYPE);
        leads("\"abc\"", "[{\"start\":9},0]", Bench.TYPE);
        leads("[\"abc\"]", "[0,{\"start\":1}]", "\"bc\"");
    }

    private static void checkBounds() {
        for (String bound : new String[] {"true", "false", "\"1\"", "[]", "{}"}) {
            for (String value : new String[] {"[1,2]", "\"ab\"", "{}", "1"}) {
                leads(value, "[{\"start\":" + bound + "}]", Bench.TYPE);
                leads(value, "[{\"start\":0,\"end\":" + bound + "}]", Bench.TYPE);
            }
        }
        leads("[1,2]", "[{\"Start\":true,\"ends\":[],\"startx\":1,\"en\":{}}]", "[1,2]");
        leads("[1,2]", "[{\"\\u0073tart\":1}]", "[2]");
    }

    private static void checkRegisters() {
        Bench bench = new Bench().put(0, "{\"a\":[1]}").put(1, "[\"a\"]").put(2, "5");
        for (int wrong : new int[] {-1, 8, Integer.MAX_VALUE, Integer.MIN_VALUE}) {
            Check.equal("to", Bench.ARGUMENT, bench.get(wrong, 0, 1));
            Check.equal("a", Bench.ARGUMENT, bench.get(3, wrong, 1));
            Check.equal("p", Bench.ARGUMENT, bench.get(3, 0, wrong));
            Check.equal("to ahead of a type", Bench.ARGUMENT, bench.get(wrong, 0, 2));
        }
        Check.equal("no reason is told", 0, bench.x.count(3));
        Check.equal("refused", Bench.TYPE, bench.get(0, 0, 2));
        Check.equal("nothing is changed", "{\"a\":[1]}", bench.text(0));
        Check.equal("to another", Bench.FINE, bench.get(3, 0, 1));
        Check.equal("a stays", "{\"a\":[1]}", bench.text(0));
        Check.equal("p stays", "[\"a\"]", bench.text(1));
        Check.equal("to", "[1]", bench.text(3));
        Check.equal("to the path's", Bench.FINE, bench.get(1, 0, 1));
        Check.equal("the path's", "[1]", bench.text(1));
        bench.put(1, "[\"a\"]");
        Check.equal("to its own", Bench.FINE, bench.get(0, 0, 1));
        Check.equal("its own", "[1]", bench.text(0));
        bench.put(4, "[[7]]");
        Check.equal("all one: a type", Bench.TYPE, bench.get(4, 4, 4));
        bench.put(4, "[]");
        Check.equal("all one", Bench.FINE, bench.get(4, 4, 4));
        Check.equal("all one", "[]", bench.text(4));
    }
}
