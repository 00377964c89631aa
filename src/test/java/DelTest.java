/** Promises 8 and 13: del, the order in which it looks, and its limits. */
public final class DelTest {
    public static void main(String[] args) {
        checkOne();
        checkNothing();
        checkTypes();
        checkParts();
        checkOrder();
        checkEmptyPath();
        checkManySteps();
        checkManyPaths();
        checkLong();
        checkRegisters();
        Check.finish();
    }

    private static void leaves(String a, String ps, String due) {
        Check.equal("del " + ps + " of " + a, due, Bench.left(a, ps));
    }

    private static void checkOne() {
        leaves("[1,2,3]", "[[0]]", "[2,3]");
        leaves("[1,2,3]", "[[1]]", "[1,3]");
        leaves("[1,2,3]", "[[2]]", "[1,2]");
        leaves("[1,2,3]", "[[-1]]", "[1,2]");
        leaves("[1,2,3]", "[[-3]]", "[2,3]");
        leaves("[1]", "[[0]]", "[]");
        leaves("{\"a\":1,\"b\":[2],\"c\":\"3\"}", "[[\"a\"]]", "{\"b\":[2],\"c\":\"3\"}");
        leaves("{\"a\":1,\"b\":[2],\"c\":\"3\"}", "[[\"b\"]]", "{\"a\":1,\"c\":\"3\"}");
        leaves("{\"a\":1,\"b\":[2],\"c\":\"3\"}", "[[\"c\"]]", "{\"a\":1,\"b\":[2]}");
        leaves("{\"a\":1}", "[[\"a\"]]", "{}");
        leaves("{\"a\":null}", "[[\"a\"]]", "{}");
        leaves("[null,1]", "[[0]]", "[1]");
        leaves("{\"a\":[1,{\"b\":2,\"c\":3}]}", "[[\"a\",1,\"b\"]]", "{\"a\":[1,{\"c\":3}]}");
        leaves("{\"a\":[1,{\"b\":2,\"c\":3}]}", "[[\"a\",1]]", "{\"a\":[1]}");
        leaves("[[1,2],[3]]", "[[0,0]]", "[[2],[3]]");
        leaves("{\",\":1,\"]\":{\"}\":[\",\"]}}", "[[\"]\",\"}\",0]]", "{\",\":1,\"]\":{\"}\":[]}}");
    }

    private static void checkNothing() {
        leaves("[1,2]", "[]", "[1,2]");
        leaves("5", "[]", "5");
        leaves("[1,2]", "[[2]]", "[1,2]");
        leaves("[1,2]", "[[-3]]", "[1,2]");
        leaves("[1,2]", "[[9007199254740991],[-9007199254740991]]", "[1,2]");
        leaves("{\"a\":1}", "[[\"b\"]]", "{\"a\":1}");
        leaves("null", "[[\"a\"],[0],[{}],[true],[null,1],[[]],[{\"start\":true}]]", "null");
        leaves("{\"a\":null}", "[[\"a\",true,{\"start\":[]}]]", "{\"a\":null}");
        leaves("{\"a\":1}", "[[\"b\",true]]", "{\"a\":1}");
        leaves("[1]", "[[3,\"a\",null]]", "[1]");
        leaves("[1,2,3]", "[[{\"start\":3}]]", "[1,2,3]");
        leaves("[1,2,3]", "[[{\"start\":2,\"end\":1}]]", "[1,2,3]");
        leaves("[1,2,3]", "[[{\"start\":1,\"end\":2},1]]", "[1,2,3]");
        leaves("[1,2,3]", "[[{\"start\":1,\"end\":2},1,true]]", "[1,2,3]");
        leaves("[]", "[[{}]]", "[]");
    }

    private static void checkTypes() {
        for (String ps : new String[] {"null", "true", "1", "\"a\"", "{}"}) {
            leaves("[1]", ps, Bench.TYPE);
            leaves("null", ps, Bench.TYPE);
            leaves("null", "[" + ps + "]", Bench.TYPE);
            leaves("null", "[[]," + ps + "]", Bench.TYPE);
        }
        for (String step : new String[] {"null", "true", "false", "[]", "[0]"}) {
            for (String a : new String[] {"[1]", "{\"a\":1}", "\"a\"", "1", "true"}) {
                leaves(a, "[[" + step + "]]", Bench.TYPE);
                leaves("[" + a + "]", "[[0," + step + "]]", Bench.TYPE);
            }
        }
        for (String a : new String[] {"false", "true", "1", "\"abc\"", "\"\""}) {
            for (String step : new String[] {"\"a\"", "0", "-1", "{}", "{\"start\":5}"}) {
                leaves(a, "[[" + step + "]]", Bench.TYPE);
            }
        }
        leaves("[1]", "[[\"a\"]]", Bench.TYPE);
        leaves("{\"a\":1}", "[[0]]", Bench.TYPE);
        leaves("{\"a\":1}", "[[{}]]", Bench.TYPE);
        leaves("{\"a\":1}", "[[\"a\",\"b\"]]", Bench.TYPE);
        leaves("\"abc\"", "[[{\"start\":1},{}]]", Bench.TYPE);
        leaves("\"abc\"", "[[{\"start\":1},0]]", Bench.TYPE);
        leaves("[1,2]", "[[{\"start\":true}]]", Bench.TYPE);
        leaves("[1,2]", "[[{\"end\":\"\"}]]", Bench.TYPE);
        leaves("[1,2]", "[[{},\"a\"]]", Bench.TYPE);
        leaves("[1,2]", "[[{},0,0]]", Bench.TYPE);
    }

    private static void checkParts() {
        leaves("[0,1,2,3]", "[[{}]]", "[]");
        leaves("[0,1,2,3]", "[[{\"start\":1,\"end\":3}]]", "[0,3]");
        leaves("[0,1,2,3]", "[[{\"start\":2}]]", "[0,1]");
        leaves("[0,1,2,3]", "[[{\"end\":2}]]", "[2,3]");
        leaves("[0,1,2,3]", "[[{\"start\":-1}]]", "[0,1,2]");
        leaves("[0,1,2,3]", "[[{\"end\":-1}]]", "[3]");
        leaves("[0,1,2,3]", "[[{\"start\":1,\"end\":3},0]]", "[0,2,3]");
        leaves("[0,1,2,3]", "[[{\"start\":1,\"end\":3},-1]]", "[0,1,3]");
        leaves("[0,1,2,3]", "[[{\"start\":1},{\"end\":2}]]", "[0,3]");
        leaves("[[1,2],[3,4]]", "[[{\"start\":1},0,{\"start\":1}]]", "[[1,2],[3]]");
        leaves("{\"a\":[1,2,3],\"b\":0}", "[[\"a\",{\"start\":1}]]", "{\"a\":[1],\"b\":0}");
    }

    private static void checkOrder() {
        leaves("[0,1,2,3]", "[[0],[1]]", "[2,3]");
        leaves("[0,1,2,3]", "[[1],[0]]", "[2,3]");
        leaves("[0,1,2,3]", "[[0],[3],[1]]", "[2]");
        leaves("[0,1,2,3]", "[[10],[9],[2]]", "[0,1,3]");
        // From the end: -1 comes before 0 in ORDER, so it is taken out behind it.
        leaves("[0,1,2,3]", "[[-1],[0]]", "[1,2]");
        leaves("[0,1]", "[[-2],[0]]", "[1]");
        leaves("[0,1,2,3]", "[[-1],[-2]]", "[0,2]");
        // A beginning comes first in ORDER, so what is within goes before it.
        leaves("{\"a\":[1,2]}", "[[\"a\"],[\"a\",0]]", "{}");
        leaves("[[1,2],[3]]", "[[0,1],[0],[1,0]]", "[[]]");
        // NUMBERS, STRINGS, OBJECTS: a part is taken out before a place.
        leaves("[0,1,2,3]", "[[0],[{\"start\":0,\"end\":2}]]", "[3]");
        leaves("[0,1,2,3,4,5]", "[[{\"end\":1}],[{\"end\":2}]]", "[3,4,5]");
        leaves("[0,1,2,3,4,5]", "[[{\"start\":4}],[{\"end\":1,\"start\":0}]]", "[1,2,3]");
        // Greater names go before smaller ones, so here there is nothing left to be wrong.
        leaves("{\"a\":1,\"b\":{\"c\":1}}", "[[\"b\",\"c\",0],[\"b\",\"c\"]]", Bench.TYPE);
        leaves("[5,[6]]", "[[1,0,0],[1]]", Bench.TYPE);
        leaves("[[0],5]", "[[0,1,true],[1]]", "[[0]]");
        leaves("[1,[2]]", "[[0],[0,0]]", Bench.TYPE);
        leaves("[[7],[2]]", "[[0],[0,0,0]]", Bench.TYPE);
        leaves("{\"a\":1,\"ab\":2,\"b\":3}", "[[\"b\"],[\"a\"],[\"ab\"]]", "{}");
        // What is cut out by a part first is not there for a path that comes behind.
        leaves("[[1],5]", "[[1,0],[{\"start\":1}]]", "[[1]]");
        // The same path twice is taken out twice.
        leaves("[0,1,2,3]", "[[0],[0]]", "[2,3]");
        leaves("{\"a\":1,\"b\":2}", "[[\"a\"],[\"a\"]]", "{\"b\":2}");
    }

    private static void checkEmptyPath() {
        leaves("[1]", "[[]]", "null");
        leaves("{\"a\":1}", "[[],[\"a\"]]", "null");
        leaves("null", "[[]]", "null");
        leaves("5", "[[],[]]", "null");
        // The empty path is the smallest, so the others come, and are wrong, before it.
        leaves("[1]", "[[],[\"a\"]]", Bench.TYPE);
        leaves("[1]", "[[\"a\"],[]]", Bench.TYPE);
        leaves("[1]", "[[],5]", Bench.TYPE);
    }

    private static void checkManySteps() {
        String hundred = "[" + Bench.times(100, "0", ",") + "]";
        String more = "[" + Bench.times(101, "0", ",") + "]";
        leaves("null", "[" + more + "]", Bench.RANGE);
        leaves("true", "[" + more + "]", Bench.RANGE);
        leaves("true", "[[0]," + more + "]", Bench.RANGE);
        leaves("true", "[" + more + ",[0]]", Bench.RANGE);
        leaves("true", "[" + more + ",7]", Bench.TYPE);
        leaves("true", "[7," + more + "]", Bench.TYPE);
        leaves("true", "{\"a\":" + more + "}", Bench.TYPE);
        leaves("null", "[" + hundred + "]", "null");
        leaves("true", "[" + hundred + "]", Bench.TYPE);
        leaves("null", "[" + hundred + ",[0]]", Bench.LIMIT);
        leaves("true", "[" + hundred + ",[0]]", Bench.LIMIT);
        leaves("null", "[" + hundred + ",[]]", "null");
        leaves("null", "[" + Bench.times(50, "[0,0]", ",") + "]", "null");
        leaves("null", "[" + Bench.times(51, "[0,0]", ",") + "]", Bench.LIMIT);
        leaves("true", "[" + Bench.times(51, "[0,0]", ",") + ",[" + Bench.times(101, "0", ",") + "]]", Bench.RANGE);
    }

    private static void checkManyPaths() {
        leaves("[1]", "[" + Bench.times(100, "[]", ",") + "]", "null");
        leaves("[1]", "[" + Bench.times(101, "[]", ",") + "]", Bench.LIMIT);
        leaves("[1]", "[" + Bench.times(101, "[]", ",") + ",5]", Bench.TYPE);
        leaves("[1]", "[" + Bench.times(101, "[]", ",") + ",[" + Bench.times(101, "0", ",") + "]]", Bench.RANGE);
        leaves("{\"a\":1}", "[" + Bench.times(101, "[0]", ",") + "]", Bench.LIMIT);
        leaves("{\"a\":1}", "[" + Bench.times(100, "[0]", ",") + "]", Bench.TYPE);
        leaves("{\"a\":1}", "[" + Bench.times(100, "[]", ",") + ",[0]]", Bench.LIMIT);
        leaves("[" + Bench.times(101, "7", ",") + "]", "[" + Bench.times(100, "[0]", ",") + "]", "[7]");
        leaves("[1]", "[" + Bench.times(1300, "[]", ",") + "]", Bench.LIMIT);
    }

    /** Cuts out of a VALUE that has 4096 bytes. */
    private static void checkLong() {
        String longest = "[\"" + "x".repeat(4086) + "\",1,2]";
        leaves(longest, "[[1]]", "[\"" + "x".repeat(4086) + "\",2]");
        leaves(longest, "[[2]]", "[\"" + "x".repeat(4086) + "\",1]");
        leaves(longest, "[[0]]", "[1,2]");
        leaves(longest, "[[{}]]", "[]");
        leaves(longest, "[[]]", "null");
        leaves(longest, "[]", longest);
    }

    private static void checkRegisters() {
        Bench bench = new Bench().put(0, "[1,2]").put(1, "[[0]]").put(2, "5");
        for (int wrong : new int[] {-1, 8, Integer.MAX_VALUE, Integer.MIN_VALUE}) {
            Check.equal("to", Bench.ARGUMENT, bench.del(wrong, 0, 1));
            Check.equal("a", Bench.ARGUMENT, bench.del(3, wrong, 1));
            Check.equal("ps", Bench.ARGUMENT, bench.del(3, 0, wrong));
            Check.equal("to ahead of a type", Bench.ARGUMENT, bench.del(wrong, 0, 2));
        }
        Check.equal("no reason is told", 0, bench.x.count(3));
        bench.put(3, "[[\"a\"],[{}]]");
        Check.equal("refused after a part was taken out", Bench.TYPE, bench.del(0, 0, 3));
        Check.equal("nothing is changed", "[1,2]", bench.text(0));
        Check.equal("to another", Bench.FINE, bench.del(3, 0, 1));
        Check.equal("a stays", "[1,2]", bench.text(0));
        Check.equal("ps stays", "[[0]]", bench.text(1));
        Check.equal("to", "[2]", bench.text(3));
        Check.equal("to its own", Bench.FINE, bench.del(0, 0, 1));
        Check.equal("its own", "[2]", bench.text(0));
        Check.equal("all one", Bench.FINE, bench.del(1, 1, 1));
        Check.equal("all one", "[]", bench.text(1));
    }
}
