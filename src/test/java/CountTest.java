/** Promise 12: count. */
public final class CountTest {
    public static void main(String[] args) {
        checkWhat();
        checkPlace();
        checkReason();
        Check.finish();
    }

    private static void checkWhat() {
        Bench bench = new Bench().tape("[1,2]");
        Check.equal("bytes of the tape", "5", bench.count(0));
        bench.x.read(0);
        Check.equal("the tape is empty then", "0", bench.count(0));
        Check.equal("no result yet", "0", bench.count(1));
        bench.x.print(0);
        Check.equal("bytes of the result", "5", bench.count(1));
        for (int wrong : new int[] {-1, 4, Integer.MAX_VALUE, Integer.MIN_VALUE}) {
            Check.equal("count(" + wrong + ")", Bench.ARGUMENT, bench.count(wrong));
        }
    }

    private static void checkPlace() {
        Bench bench = new Bench();
        Check.equal("before", "-1", bench.count(2));
        bench.tape("[1,x]").read(0);
        Check.equal("broken", "3", bench.count(2));
        bench.x.print(0);
        bench.get(0, 0, 0);
        bench.tape("1");
        Check.equal("other calls leave it", "3", bench.count(2));
        bench.read(0);
        Check.equal("a read that tells none", "-1", bench.count(2));
        bench.tape("").read(0);
        Check.equal("broken at once", "0", bench.count(2));
    }

    private static void checkReason() {
        Bench bench = new Bench().put(0, "[1]").put(1, "[-5]").put(2, "[\"a\"]").put(3, "[[\"a\"]]");
        Check.equal("before", "0", bench.count(3));
        bench.set(4, 0, 1, 0);
        Check.equal("range", "2", bench.count(3));
        bench.get(4, 0, 1);
        bench.set(4, 0, 0, 0);
        bench.del(4, 0, 3);
        Check.equal("type, by del", "1", bench.count(3));
        bench.set(4, 0, 1, 0);
        Check.equal("range again", "2", bench.count(3));
        bench.get(4, 0, 2);
        Check.equal("type, by get", "1", bench.count(3));
        bench.set(4, 0, 1, 0);
        bench.tape("[").read(4);
        bench.get(9, 0, 0);
        bench.end(-1);
        bench.word(-1);
        bench.put(5, "[1000]").put(6, "null");
        Check.equal("a limit", Bench.LIMIT, bench.set(4, 6, 5, 0));
        bench.all(4, 0);
        bench.same(0, 1);
        bench.x.print(4);
        Check.equal("others leave it", "2", bench.count(3));
    }
}
