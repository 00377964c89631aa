/** Promises 5 and 11: print and word. */
public final class PrintTest {
    public static void main(String[] args) {
        checkPrint();
        checkCharacters();
        checkWord();
        Check.finish();
    }

    private static void checkPrint() {
        Bench bench = new Bench().put(0, "[1, 2]").put(7, "{\"a\" : \"b\"}");
        Check.equal("print(0)", "5", bench.print(0));
        Check.equal("result", "[1,2]", bench.result());
        Check.equal("print(7)", "9", bench.print(7));
        Check.equal("a longer result", "{\"a\":\"b\"}", bench.result());
        Check.equal("print(1)", "4", bench.print(1));
        Check.equal("a shorter result", "null", bench.result());
        for (int r : new int[] {-1, 8, Integer.MAX_VALUE, Integer.MIN_VALUE}) {
            Check.equal("print(" + r + ")", Bench.ARGUMENT, bench.print(r));
        }
        Check.equal("the result is as it was", "null", bench.result());
        bench.put(1, "[]");
        Check.equal("the result stays when the register changes", "null", bench.result());
    }

    private static void checkCharacters() {
        for (int c = 0; c < 128; c++) {
            String hex = String.format("\"\\u%04X\"", c);
            Check.equal("character " + c, "\"" + printed(c) + "\"", new Bench().put(0, hex).text(0));
            Check.equal("name " + c, "{\"" + printed(c) + "\":0}", new Bench().put(0, "{" + hex + ":0}").text(0));
        }
    }

    private static String printed(int c) {
        int known = "\b\t\n\f\r\"\\".indexOf(c);
        if (known >= 0) {
            return "\\" + "btnfr\"\\".charAt(known);
        }
        return c < 32 || c == 127 ? String.format("\\u%04x", c) : String.valueOf((char) c);
    }

    private static void checkWord() {
        Bench bench = new Bench().put(0, "\"abcdefghij\"");
        Check.equal("before print", Bench.LIMIT, bench.word(0));
        bench.x.print(0);
        Check.equal("word(0)", 0x2261626364656667L, bench.x.word(0));
        Check.equal("word(1)", 0x6162636465666768L, bench.x.word(1));
        Check.equal("word(4)", 0x6465666768696A22L, bench.x.word(4));
        Check.equal("word(5)", 0x65666768696A2200L, bench.x.word(5));
        Check.equal("word(11)", 0x2200000000000000L, bench.x.word(11));
        for (int i : new int[] {12, 13, -1, 4096, Integer.MAX_VALUE, Integer.MIN_VALUE}) {
            Check.equal("word(" + i + ")", Bench.LIMIT, bench.word(i));
        }
        bench.x.print(1);
        Check.equal("nothing of an older result behind", 0x6E756C6C00000000L, bench.x.word(0));
        Check.equal("the last byte", 0x6C00000000000000L, bench.x.word(3));
        Check.equal("behind it", Bench.LIMIT, bench.word(4));
    }
}
