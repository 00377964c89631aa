/** Promise 13 and the LIMITS: the order of exceptions, and that what throws changes nothing. */
public final class LimitsTest {
    public static void main(String[] args) {
        checkDepth();
        checkPrinted();
        checkPrintedParts();
        checkOrder();
        checkNothingChanges();
        Check.finish();
    }

    private static Bench nested(int arrays) {
        Bench bench = new Bench().put(0, "[".repeat(40) + "]".repeat(40)).put(1, "[" + Bench.times(39, "0", ",") + "]");
        int within = arrays - 39;
        return bench.put(2, "[".repeat(within) + "]".repeat(within));
    }

    private static void checkDepth() {
        Bench bench = nested(60);
        Check.equal("60 within one another", Bench.FINE, bench.set(3, 0, 1, 2));
        Check.equal("60 within one another", "[".repeat(60) + "]".repeat(60), bench.text(3));
        bench = nested(61).put(3, "7");
        Check.equal("61 within one another", Bench.LIMIT, bench.set(3, 0, 1, 2));
        Check.equal("nothing is changed", "7", bench.text(3));
        Check.equal("no reason is told", 0, bench.x.count(3));
        bench = new Bench().put(0, "[" + Bench.times(60, "0", ",") + "]").put(1, "[" + Bench.times(61, "0", ",") + "]").put(3, "7");
        Check.equal("60 from null", Bench.FINE, bench.set(2, 4, 0, 3));
        Check.equal("60 from null", "[".repeat(60) + "7" + "]".repeat(60), bench.text(2));
        Check.equal("an array more in it", Bench.LIMIT, bench.set(2, 4, 1, 3));
        bench.put(5, "[]").put(6, "{}").put(7, "\"[[[{{{\\\"[[\\\\\"");
        Check.equal("one more in it", Bench.LIMIT, bench.set(2, 4, 0, 6));
        Check.equal("a text with such signs", Bench.FINE, bench.set(2, 4, 0, 7));
        Check.equal("60 put into an array", Bench.FINE, bench.set(1, 2, 5, 2));
        bench.put(5, "[0]");
        Check.equal("60 put into one more", Bench.LIMIT, bench.set(1, 4, 5, 2));
        bench.put(5, "[\"a\"]");
        Check.equal("60 put into an object", Bench.LIMIT, bench.set(1, 4, 5, 2));
        Check.equal("same, of 60", "true", bench.same(2, 2));
    }

    private static void checkPrinted() {
        Bench bench = new Bench().put(0, "\"" + "x".repeat(4092) + "\"").put(1, "[0]").put(3, "[1]").put(5, "9");
        Check.equal("4096 bytes", Bench.FINE, bench.set(2, 4, 1, 0));
        Check.equal("4096 bytes", "[\"" + "x".repeat(4092) + "\"]", bench.text(2));
        Check.equal("behind 4096 bytes", Bench.LIMIT, bench.set(7, 2, 3, 5));
        Check.equal("in place of 4094 of them", Bench.FINE, bench.set(7, 2, 1, 5));
        Check.equal("in place of 4094 of them", "[9]", bench.text(7));
        bench = new Bench().put(0, "\"" + "x".repeat(4093) + "\"").put(1, "[0]").put(5, "1");
        Check.equal("4097 bytes", Bench.LIMIT, bench.set(5, 4, 1, 0));
        Check.equal("nothing is changed", "1", bench.text(5));
        bench = new Bench().put(6, "[\"" + "y".repeat(3000) + "\"]").put(5, "\"" + "z".repeat(1100) + "\"");
        Check.equal("a long name", Bench.FINE, bench.set(7, 4, 6, 4));
        Check.equal("a long name and a long string", Bench.LIMIT, bench.set(7, 4, 6, 5));
        bench.put(6, "[" + Bench.times(5, "999", ",") + "]");
        Check.equal("nulls without end", Bench.LIMIT, bench.set(7, 4, 6, 4));
    }

    private static void checkPrintedParts() {
        // Escapes count with all their bytes.
        Bench bench = new Bench().put(0, "\"" + "\\u0001".repeat(680) + "\"").put(6, "[3]");
        Check.equal("4082 and 3 nulls", Bench.LIMIT, bench.set(7, 4, 6, 0));
        bench.put(6, "[2]");
        Check.equal("4082 and 2 nulls", Bench.FINE, bench.set(7, 4, 6, 0));
        Check.equal("4094 bytes", "4094", bench.print(7));
        bench.put(6, "[{\"end\":0}]");
        Check.equal("a part that grows too long", Bench.LIMIT, bench.set(7, 7, 6, 7));
        Check.equal("nothing is changed", "4094", bench.print(7));
    }

    private static void checkOrder() {
        Bench bench = new Bench().put(0, "\"" + "x".repeat(4090) + "\"").put(1, "[1000,true]").put(2, "[1000,-1]").put(3, "[1000]");
        Check.equal("a type ahead of a limit", Bench.TYPE, bench.set(7, 4, 1, 0));
        Check.equal("a range ahead of a limit", Bench.RANGE, bench.set(7, 4, 2, 0));
        Check.equal("a limit", Bench.LIMIT, bench.set(7, 4, 3, 0));
        Check.equal("a register ahead of all", Bench.ARGUMENT, bench.set(8, 4, 3, 0));
        Check.equal("a register ahead of all", Bench.ARGUMENT, bench.set(7, 4, 1, -1));
        bench.put(1, "[" + Bench.times(700, "[]", ",") + "]");
        Check.equal("a register ahead of a limit, by del", Bench.ARGUMENT, bench.del(8, 0, 1));
        Check.equal("a limit, by del", Bench.LIMIT, bench.del(7, 0, 1));
        bench = new Bench().put(1, "[" + Bench.times(2000, "0", ",") + "]");
        Check.equal("a register ahead of a limit, by all", Bench.ARGUMENT, bench.all(8, 1));
        Check.equal("a limit, by all", Bench.LIMIT, bench.all(7, 1));
        bench.put(1, "[{},\"a\",1000]").put(2, "[9]");
        Check.equal("a name behind null's part ahead of a limit", Bench.TYPE, bench.set(7, 4, 1, 2));
    }

    private static void checkNothingChanges() {
        Bench bench = new Bench();
        String[] texts = {"[1,[2]]", "[-9]", "[\"a\"]", "[[\"a\"]]", "[1000]", "null", "{\"x\":0}", "\"s\""};
        for (int r = 0; r < 8; r++) {
            bench.put(r, texts[r]);
        }
        bench.x.print(6);
        bench.tape("[[");
        bench.set(0, 0, 1, 7);
        bench.get(0, 0, 2);
        bench.del(0, 0, 3);
        bench.set(5, 5, 4, 0);
        bench.get(-1, 0, 0);
        bench.set(0, 8, 0, 0);
        bench.del(0, 0, -1);
        bench.all(9, 0);
        bench.same(0, 8);
        bench.word(7);
        bench.count(4);
        bench.end(3);
        bench.print(8);
        bench.read(8);
        Check.equal("the tape", 2, bench.x.count(0));
        Check.equal("the place", -1, bench.x.count(2));
        Check.equal("the result", "{\"x\":0}", bench.result());
        for (int r = 0; r < 8; r++) {
            Check.equal("register " + r, texts[r], bench.text(r));
        }
        bench.print(6);
        bench.read(0);
        Check.equal("a broken tape leaves the register", texts[0], bench.text(0));
    }
}
