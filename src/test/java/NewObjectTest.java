/** Promise 1: all REGISTERS of a new object are null; nothing is on the TAPE or in THE RESULT. */
public final class NewObjectTest {
    public static void main(String[] args) {
        for (int r = 0; r < 8; r++) {
            Check.equal("register " + r, "null", new Bench().text(r));
        }
        Bench bench = new Bench();
        for (int r = 0; r < 8; r++) {
            Check.equal("print " + r, "4", bench.print(r));
            Check.equal("same as register 0", "true", bench.same(0, r));
        }
        checkCounts();
        checkApart();
        Check.finish();
    }

    private static void checkCounts() {
        Bench bench = new Bench();
        Check.equal("bytes of the tape", 0, bench.x.count(0));
        Check.equal("bytes of the result", 0, bench.x.count(1));
        Check.equal("place", -1, bench.x.count(2));
        Check.equal("reason", 0, bench.x.count(3));
        Check.equal("word of an empty result", Bench.LIMIT, bench.word(0));
        Check.equal("an empty tape is no JSON", "broken at 0", bench.read(0));
    }

    private static void checkApart() {
        Bench one = new Bench();
        Bench other = new Bench();
        one.put(0, "[1]").tape("12");
        one.x.print(0);
        Check.equal("the other's register", "null", other.text(0));
        Check.equal("the other's tape", 0, other.x.count(0));
    }
}
