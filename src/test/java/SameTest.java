/** Promise 10: same. */
public final class SameTest {
    public static void main(String[] args) {
        for (int i = 0; i < OrderTest.VALUES.length; i++) {
            Bench bench = new Bench().put(0, OrderTest.VALUES[i]);
            for (int k = 0; k < OrderTest.VALUES.length; k++) {
                bench.put(1, OrderTest.VALUES[k]);
                Check.equal(OrderTest.VALUES[i] + " and " + OrderTest.VALUES[k], String.valueOf(i == k), bench.same(0, 1));
            }
        }
        checkAlike();
        checkCharacters();
        checkDeep();
        checkOften();
        checkRegisters();
        Check.finish();
    }

    private static void alike(String a, String b, boolean due) {
        Bench bench = new Bench().put(2, a).put(5, b);
        Check.equal(a + " and " + b, String.valueOf(due), bench.same(2, 5));
        Check.equal(b + " and " + a, String.valueOf(due), bench.same(5, 2));
    }

    private static void checkAlike() {
        alike("{\"a\":1,\"b\":2}", "{\"b\":2,\"a\":1}", true);
        alike("{\"a\":1,\"b\":2}", "{\"b\":1,\"a\":2}", false);
        alike("{\"a\":1,\"b\":2,\"c\":3}", "{\"c\":3,\"a\":1,\"b\":2}", true);
        alike("{\"a\":1,\"b\":2}", "{\"a\":1}", false);
        alike("[{\"x\":{\"b\":[1,{\"q\":0,\"p\":1}],\"a\":2}}]", "[{\"x\":{\"a\":2,\"b\":[1,{\"p\":1,\"q\":0}]}}]", true);
        alike("[{\"x\":{\"b\":[1,{\"q\":0,\"p\":1}],\"a\":2}}]", "[{\"x\":{\"a\":2,\"b\":[1,{\"p\":1,\"q\":2}]}}]", false);
        alike("[1,2]", "[2,1]", false);
        alike("-0", "0", true);
        alike("\"\\u0041\\/\"", "\"A/\"", true);
        alike("1", "\"1\"", false);
        alike("[]", "{}", false);
        alike("{\"\\n\":1,\"A\":2}", "{\"A\":2,\"\\u000A\":1}", true);
    }

    /** Of the 128 characters no two are the same, in STRINGS and in names. */
    private static void checkCharacters() {
        for (int c = 0; c < 128; c++) {
            for (int d = 0; d < 128; d++) {
                String one = Model.printed(String.valueOf((char) c));
                String other = String.format("\"\\u%04X\"", d);
                Bench bench = new Bench().put(0, one).put(1, other).put(2, "{" + one + ":1}").put(3, "{" + other + ":1}");
                Check.equal(one + " and " + other, String.valueOf(c == d), bench.same(0, 1));
                Check.equal(one + " and " + other + " as names", String.valueOf(c == d), bench.same(2, 3));
            }
        }
    }

    private static void checkDeep() {
        String deep = "[{\"b\":1,\"a\":".repeat(20);
        String turned = "[{\"a\":".repeat(20);
        alike(deep + "5" + "}]".repeat(20), turned + "5" + ",\"b\":1}]".repeat(20), true);
        alike(deep + "5" + "}]".repeat(20), turned + "6" + ",\"b\":1}]".repeat(20), false);
        checkDeepest();
        StringBuilder up = new StringBuilder();
        StringBuilder down = new StringBuilder();
        for (int n = 0; n < 450; n++) {
            up.append(n == 0 ? "" : ",").append("\"").append(n).append("\":0");
            down.append(n == 0 ? "" : ",").append("\"").append(449 - n).append("\":0");
        }
        alike("{" + up + "}", "{" + down + "}", true);
        alike("{" + up + "}", "{" + down.toString().replace("\"7\":0", "\"7\":1") + "}", false);
        alike("{" + up + "}", "{" + down.toString().replace("\"7\":0", "\"x\":0") + "}", false);
    }

    /** 60 within one another, built by set, and only what is innermost differs. */
    private static void checkDeepest() {
        Bench bench = new Bench().put(0, "[" + Bench.times(30, "0,\"a\"", ",") + "]").put(1, "5").put(2, "6");
        bench.x.set(3, 7, 0, 1);
        bench.x.set(4, 7, 0, 1);
        bench.x.set(5, 7, 0, 2);
        Check.equal("60 and 60", "true", bench.same(3, 4));
        Check.equal("60 and another 60", "false", bench.same(3, 5));
    }

    /** As often as calls are let, with many names each. */
    private static void checkOften() {
        StringBuilder names = new StringBuilder();
        for (int n = 0; n < 100; n++) {
            names.append(n == 0 ? "" : ",").append("\"").append(n).append("\":{\"a\":").append(n).append("}");
        }
        Bench bench = new Bench().put(0, "{" + names + "}").put(1, "{" + names + "}");
        bench.put(2, "{" + names.toString().replace(":99}", ":100}") + "}");
        for (int n = 0; n < 60; n++) {
            Check.equal("time " + n, "true", bench.same(0, 1));
            Check.equal("time " + n, "false", bench.same(0, 2));
        }
    }

    private static void checkRegisters() {
        Bench bench = new Bench().put(0, "[1]");
        for (int wrong : new int[] {-1, 8, Integer.MAX_VALUE, Integer.MIN_VALUE}) {
            Check.equal("a", Bench.ARGUMENT, bench.same(wrong, 0));
            Check.equal("b", Bench.ARGUMENT, bench.same(0, wrong));
        }
        Check.equal("one and itself", "true", bench.same(0, 0));
        bench.put(1, "{\"b\":[{}],\"a\":2}");
        Check.equal("an object and itself", "true", bench.same(1, 1));
        Check.equal("nothing is changed", "{\"b\":[{}],\"a\":2}", bench.text(1));
    }
}
