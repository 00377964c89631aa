/** Promise 9: all. */
public final class AllTest {
    public static void main(String[] args) {
        lists("null", "[[]]");
        lists("5", "[[]]");
        lists("\"abc\"", "[[]]");
        lists("[]", "[[]]");
        lists("{}", "[[]]");
        lists("[7,8]", "[[],[0],[1]]");
        lists("{\"b\":1,\"a\":2}", "[[],[\"b\"],[\"a\"]]");
        lists("{\"a\":[1,{\"b\":2}]}", "[[],[\"a\"],[\"a\",0],[\"a\",1],[\"a\",1,\"b\"]]");
        lists("[[[]],{},[1]]", "[[],[0],[0,0],[1],[2],[2,0]]");
        lists("{\"\\n\\\"\":{\"\":[null]}}", "[[],[\"\\n\\\"\"],[\"\\n\\\"\",\"\"],[\"\\n\\\"\",\"\",0]]");
        lists("{\"a\":{\"c\":1,\"b\":1},\"d\":[true]}", "[[],[\"a\"],[\"a\",\"c\"],[\"a\",\"b\"],[\"d\"],[\"d\",0]]");
        checkLong();
        checkDeep();
        checkRegisters();
        Check.finish();
    }

    private static void lists(String a, String due) {
        Bench bench = new Bench().put(1, a);
        Check.equal("all of " + a, Bench.FINE, bench.all(2, 1));
        Check.equal("all of " + a, due, bench.text(2));
    }

    private static void checkLong() {
        StringBuilder due = new StringBuilder("[[]");
        for (int n = 0; n < 699; n++) {
            due.append(",[").append(n).append(']');
        }
        lists("[" + Bench.times(699, "0", ",") + "]", due + "]");
        // [[] and ,[0] .. ,[9], ,[10] .. ,[99], ,[100] .. : 3 + 40 + 450 + 6 * 599 + 1 = 4088.
        Check.equal("bytes of 699", 4088, due.length() + 1);
        lists("[" + Bench.times(700, "0", ",") + "]", due + ",[699]]");
        Bench bench = new Bench().put(1, "[" + Bench.times(701, "0", ",") + "]").put(2, "[2]");
        Check.equal("too many", Bench.LIMIT, bench.all(2, 1));
        Check.equal("nothing is changed", "[2]", bench.text(2));
        Check.equal("no reason is told", 0, bench.x.count(3));
        bench.put(1, "[" + Bench.times(2000, "0", ",") + "]");
        Check.equal("far too many", Bench.LIMIT, bench.all(2, 1));
        exactly();
    }

    /** A name as long as the limit lets it be, and one character longer. */
    private static void exactly() {
        // [[],["n"]] with n left out has 9 bytes.
        String name = "n".repeat(4096 - 9);
        lists("{\"" + name + "\":0}", "[[],[\"" + name + "\"]]");
        Bench bench = new Bench().put(1, "{\"" + name + "n\":0}");
        Check.equal("4097 bytes", Bench.LIMIT, bench.all(2, 1));
        bench.put(1, "{\"" + name + "\":[]}");
        Check.equal("4096 bytes of all, an empty array at the end", Bench.FINE, bench.all(2, 1));
    }

    private static void checkDeep() {
        Bench bench = new Bench().put(1, "[".repeat(40) + "]".repeat(40));
        bench.put(3, "[" + Bench.times(39, "0", ",") + "]").put(4, "[".repeat(21) + "1" + "]".repeat(21));
        Check.equal("60 within one another and more in it", Bench.FINE, bench.set(5, 1, 3, 4));
        StringBuilder due = new StringBuilder("[[]");
        for (int n = 1; n <= 60; n++) {
            due.append(",[").append(Bench.times(n, "0", ",")).append(']');
        }
        Check.equal("all of 60", Bench.FINE, bench.all(6, 5));
        Check.equal("all of 60", due + "]", bench.text(6));
    }

    private static void checkRegisters() {
        Bench bench = new Bench().put(0, "[1]");
        for (int wrong : new int[] {-1, 8, Integer.MAX_VALUE, Integer.MIN_VALUE}) {
            Check.equal("to", Bench.ARGUMENT, bench.all(wrong, 0));
            Check.equal("a", Bench.ARGUMENT, bench.all(3, wrong));
        }
        Check.equal("to its own", Bench.FINE, bench.all(0, 0));
        Check.equal("its own", "[[],[0]]", bench.text(0));
        Check.equal("again", Bench.FINE, bench.all(1, 0));
        Check.equal("again", "[[],[0],[1],[1,0]]", bench.text(1));
        Check.equal("a stays", "[[],[0]]", bench.text(0));
    }
}
