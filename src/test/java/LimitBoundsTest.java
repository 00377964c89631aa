/** Each LIMIT of a VALUE that would come to a REGISTER, at the bound and beside it, by every call that can come to it. */
public final class LimitBoundsTest {
    public static void main(String[] args) {
        checkDepthByPath();
        checkDepthByValue();
        checkDepthByPart();
        checkDepthTakenOut();
        checkPrintedBySet();
        checkPrintedByNulls();
        checkPrintedByAll();
        checkPrintedGoingDown();
        checkWeight();
        checkAhead();
        Check.finish();
    }

    private static String due(boolean fine) {
        return fine ? Bench.FINE : Bench.LIMIT;
    }

    /** Register r becomes so many ARRAYS within one another, more than can be read at once, with a 7 in the innermost. */
    private static void nest(Bench bench, int r, int arrays) {
        bench.put(r, "[" + Bench.times(arrays, "0", ",") + "]").put(6, "7").put(7, "null");
        bench.x.set(r, 7, r, 6);
    }

    /** "more than 60 ARRAYS and OBJECTS within one another": null becomes them along a PATH. */
    private static void checkDepthByPath() {
        for (int depth = 58; depth <= 63; depth++) {
            for (String step : new String[] {"0", "\"a\"", "1"}) {
                Bench bench = new Bench().put(0, "[" + Bench.times(depth, step, ",") + "]").put(1, "7").put(2, "\"old\"");
                Check.equal(depth + " by " + step, due(depth <= 60), bench.set(2, 7, 0, 1));
                String before = step.equals("0") ? "[" : step.equals("1") ? "[null," : "{\"a\":";
                String behind = step.equals("\"a\"") ? "}" : "]";
                String made = before.repeat(depth) + "7" + behind.repeat(depth);
                Check.equal(depth + " by " + step, depth <= 60 ? made : "\"old\"", bench.text(2));
                Check.equal("no reason", 0, bench.x.count(3));
            }
            String mixed = Bench.times(depth / 2, "0,\"a\"", ",") + (depth % 2 == 0 ? "" : ",0");
            Check.equal(depth + " of both", depth <= 60 ? Bench.FINE : Bench.LIMIT, new Bench().put(0, "[" + mixed + "]").set(2, 7, 0, 7));
            // A part is within nothing that its ARRAY is not within.
            Bench parts = new Bench().put(0, "[" + Bench.times(depth - 60 + 30, "0", ",") + ",{}," + Bench.times(30, "0", ",") + "]");
            Check.equal(depth + " with a part", due(depth <= 60), parts.set(2, 7, 0, 7));
        }
    }

    /** The same with a VALUE that is within others already, put into others. */
    private static void checkDepthByValue() {
        for (int outer = 0; outer <= 3; outer++) {
            for (int inner = 57; inner <= 60; inner++) {
                for (String step : new String[] {"0", "\"a\""}) {
                    Bench bench = new Bench();
                    nest(bench, 1, inner);
                    bench.put(0, "[" + Bench.times(outer, step, ",") + "]").put(2, "\"old\"");
                    Check.equal(inner + " within " + outer, due(outer + inner <= 60), bench.set(2, 7, 0, 1));
                    Check.equal("old, " + inner + " within " + outer, outer + inner > 60, bench.text(2).equals("\"old\""));
                }
            }
        }
        Bench bench = new Bench();
        nest(bench, 1, 60);
        bench.put(0, "[" + Bench.times(60, "0", ",") + "]");
        for (String v : new String[] {"null", "true", "-5", "\"[[{{\"", "\"\\\"[{\\\\\""}) {
            Check.equal("within 60: " + v, Bench.FINE, bench.put(2, v).set(3, 1, 0, 2));
        }
        for (String v : new String[] {"[]", "{}", "[1]", "{\"a\":1}"}) {
            Check.equal("within 60: " + v, Bench.LIMIT, bench.put(2, v).set(3, 1, 0, 2));
        }
        Check.equal("get of 60", Bench.FINE, bench.put(0, "[]").get(3, 1, 0));
        Check.equal("get of 60", "[".repeat(60) + "7" + "]".repeat(60), bench.text(3));
    }

    /** A part's elements come from within v: the ARRAY that v is counts once, not twice. */
    private static void checkDepthByPart() {
        Bench bench = new Bench();
        nest(bench, 1, 60);
        bench.put(0, "[{}]").put(2, "[[],[]]");
        Check.equal("60 in place of a part", Bench.FINE, bench.set(3, 2, 0, 1));
        Check.equal("60 in place of a part", "[".repeat(60) + "7" + "]".repeat(60), bench.text(3));
        bench.put(0, "[0,{}]");
        Check.equal("60 in place of a part within", Bench.LIMIT, bench.set(3, 2, 0, 1));
        nest(bench, 1, 59);
        Check.equal("59 in place of a part within", Bench.FINE, bench.set(3, 2, 0, 1));
    }

    private static void checkDepthTakenOut() {
        Bench bench = new Bench();
        nest(bench, 1, 60);
        bench.put(0, "[[" + Bench.times(60, "0", ",") + "]]");
        Check.equal("del within 60", Bench.FINE, bench.del(3, 1, 0));
        Check.equal("del within 60", "[".repeat(60) + "]".repeat(60), bench.text(3));
        Check.equal("all of 60", Bench.FINE, bench.all(3, 1));
        Check.equal("same, 60", "true", bench.same(1, 1));
    }

    /** "or PRINTED with more than 4096 bytes": v comes to a name, a place, a part, or instead of something. */
    private static void checkPrintedBySet() {
        String[][] ways = {
            // a, the path, and what is around v, or v's elements, then.
            {"null", "[0]", "[", "]"},
            {"null", "[\"a\"]", "{\"a\":", "}"},
            {"null", "[\"\\u0001\\n\"]", "{\"\\u0001\\n\":", "}"},
            {"[1,2]", "[2]", "[1,2,", "]"},
            {"[1,2]", "[3]", "[1,2,null,", "]"},
            {"[1,2]", "[0]", "[", ",2]"},
            {"{\"b\":3}", "[\"a\"]", "{\"b\":3,\"a\":", "}"},
            {"{\"b\":3}", "[\"b\"]", "{\"b\":", "}"},
            {"[1,[2,{\"x\":3}]]", "[1,1,\"x\"]", "[1,[2,{\"x\":", "}]]"},
            {"[1,2,3]", "[{\"start\":1},1]", "[1,2,", "]"},
            {"[1,2,3]", "[{\"end\":1},1]", "[1,", ",2,3]"},
        };
        for (String[] way : ways) {
            for (int length = 4094; length <= 4098; length++) {
                String v = "\"" + "x".repeat(length - way[2].length() - way[3].length() - 2) + "\"";
                checkPrinted(way, v, v, length);
            }
        }
        String[][] parts = {
            {"[1,2,3]", "[{\"start\":1,\"end\":2}]", "[1,", ",3]"},
            {"[1,2,3]", "[{\"start\":1,\"end\":1}]", "[1,", ",2,3]"},
            {"[1,2,3]", "[{\"start\":3}]", "[1,2,3,", "]"},
            {"null", "[{}]", "[", "]"},
        };
        for (String[] way : parts) {
            for (int length = 4093; length <= 4098; length++) {
                int left = length - way[2].length() - way[3].length() - 4;
                String elements = "5,\"" + "x".repeat(left) + "\"";
                if (elements.length() <= 4094) {
                    checkPrinted(way, "[" + elements + "]", elements, length);
                }
            }
        }
    }

    private static void checkPrinted(String[] way, String v, String within, int length) {
        Bench bench = new Bench().put(0, way[0]).put(1, way[1]).put(2, v).put(3, "\"old\"");
        Check.equal(way[1] + " to " + length, due(length <= 4096), bench.set(3, 0, 1, 2));
        Check.equal(way[1] + " to " + length, length <= 4096 ? String.valueOf(length) : "5", bench.print(3));
        Check.equal("old, " + way[1] + " to " + length, length <= 4096 ? way[2] + within + way[3] : "\"old\"", bench.result());
    }

    /** An ARRAY that is filled with null: 818 of them and a VALUE of 4 bytes have 4096 bytes. */
    private static void checkPrintedByNulls() {
        for (int nulls = 816; nulls <= 820; nulls++) {
            Bench bench = new Bench().put(0, "[" + nulls + "]").put(1, "true").put(2, "[]");
            Check.equal(nulls + " of null", due(nulls <= 818), bench.set(3, 7, 0, 1));
            Check.equal(nulls + " of []", due(nulls <= 818), bench.set(4, 2, 0, 1));
            Check.equal("bytes, " + nulls, nulls <= 818 ? String.valueOf(6 + 5 * nulls) : "4", bench.print(3));
            Check.equal("same, " + nulls, "true", bench.same(3, 4));
        }
        Bench bench = new Bench().put(0, "[818]").put(1, "false");
        Check.equal("818 and 5 bytes", Bench.LIMIT, bench.set(3, 7, 0, 1));
        bench.put(1, "7");
        Check.equal("818 and 1 byte", Bench.FINE, bench.set(3, 7, 0, 1));
        Check.equal("818 and 1 byte", "4093", bench.print(3));
    }

    /** all writes more than there was: names again, and places as NUMBERS of one to three digits. */
    private static void checkPrintedByAll() {
        for (int length = 4094; length <= 4098; length++) {
            String name = "n".repeat(length - 9);
            Bench bench = new Bench().put(0, "{\"" + name + "\":0}").put(1, "\"old\"");
            Check.equal("all to " + length, due(length <= 4096), bench.all(1, 0));
            Check.equal("all to " + length, length <= 4096 ? "[[],[\"" + name + "\"]]" : "\"old\"", bench.text(1));
            // [[],["n"],["n",0]] has 16 bytes but for the name, which is there twice.
            String half = "n".repeat((length - 16) / 2);
            int made = 16 + 2 * half.length();
            bench = new Bench().put(0, "{\"" + half + "\":[0]}").put(1, "\"old\"");
            Check.equal("all to " + made, due(made <= 4096), bench.all(1, 0));
            Check.equal("all to " + made, made <= 4096 ? String.valueOf(made) : "5", bench.print(1));
        }
        // 3 + 4 * 10 + 5 * 90 + 6 * (n - 100) + 1 bytes for n elements: 4094 for 700.
        for (int size = 698; size <= 702; size++) {
            Bench bench = new Bench().put(0, "[" + Bench.times(size, "0", ",") + "]");
            Check.equal("all of " + size, due(size <= 700), bench.all(1, 0));
            Check.equal("all of " + size, size <= 700 ? String.valueOf(494 + 6 * (size - 100)) : "4", bench.print(1));
        }
    }

    /** What has 4096 bytes may be changed as long as it does not grow. */
    private static void checkPrintedGoingDown() {
        String longest = "[1,\"" + "x".repeat(4088) + "\",3]";
        Check.equal("its bytes", 4096, longest.length());
        Bench bench = new Bench().put(0, longest).put(1, "[0]").put(2, "5").put(3, "55");
        Check.equal("one byte for one", Bench.FINE, bench.set(4, 0, 1, 2));
        Check.equal("one byte for one", longest.replace("[1,", "[5,"), bench.text(4));
        Check.equal("two bytes for one", Bench.LIMIT, bench.set(4, 0, 1, 3));
        Check.equal("one byte for 4090", Bench.FINE, bench.put(1, "[1]").set(4, 0, 1, 2));
        Check.equal("one byte for 4090", "[1,5,3]", bench.text(4));
        Check.equal("get of all", Bench.FINE, bench.put(1, "[]").get(4, 0, 1));
        Check.equal("get of all", "4096", bench.print(4));
        Check.equal("get of a part", Bench.FINE, bench.put(1, "[{}]").get(4, 0, 1));
        Check.equal("get of a part", "4096", bench.print(4));
        Check.equal("del of nothing", Bench.FINE, bench.put(1, "[[3]]").del(4, 0, 1));
        Check.equal("del of nothing", "4096", bench.print(4));
        Check.equal("del", Bench.FINE, bench.put(1, "[[2]]").del(4, 0, 1));
        Check.equal("del", "4094", bench.print(4));
    }

    /**
     * "a WEIGHT above 60000": no VALUE comes to it, since each of the bytes that it has PRINTED weighs
     * 1 at most; the heaviest of 4096 bytes are taken.
     */
    private static void checkWeight() {
        String[] heavy = {
            "\"" + "x".repeat(4094) + "\"",
            "[" + Bench.times(2047, "7", ",") + "]",
            "{\"" + "x".repeat(4089) + "\":7}",
            "[" + Bench.times(1365, "[]", ",") + "]",
        };
        for (String text : heavy) {
            Bench bench = new Bench().put(0, text).put(1, "[]");
            Check.equal("heavy", Bench.FINE, bench.set(2, 7, 1, 0));
            Check.equal("heavy", String.valueOf(text.length()), bench.print(2));
            Check.equal("heavy", "true", bench.same(0, 2));
        }
    }

    /** "What is thrown, in this order": a wrong register, then what is refused, then a limit. */
    private static void checkAhead() {
        String most = "\"" + "x".repeat(4094) + "\"";
        Bench bench = new Bench().put(0, most).put(1, "[0]").put(2, "[0,true]").put(3, "[0,-1]").put(4, "[{},\"a\"]").put(5, "[{}]");
        Check.equal("a limit", Bench.LIMIT, bench.set(7, 6, 1, 0));
        Check.equal("a type ahead of it", Bench.TYPE, bench.set(7, 6, 2, 0));
        Check.equal("a range ahead of it", Bench.RANGE, bench.set(7, 6, 3, 0));
        Check.equal("a name behind a part ahead of it", Bench.TYPE, bench.set(7, 6, 4, 0));
        Check.equal("no ARRAY for a part ahead of it", Bench.TYPE, bench.set(7, 6, 5, 0));
        for (int wrong : new int[] {-1, 8}) {
            Check.equal("a register ahead of a limit", Bench.ARGUMENT, bench.set(wrong, 6, 1, 0));
            Check.equal("a register ahead of a type", Bench.ARGUMENT, bench.set(wrong, 6, 2, 0));
            Check.equal("a register ahead of a range", Bench.ARGUMENT, bench.set(wrong, 6, 3, 0));
        }
        Check.equal("only what was refused has a reason", 1, bench.x.count(3));
    }
}
