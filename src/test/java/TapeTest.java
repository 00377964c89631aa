/** Promises 2 and 3: feed and end. */
public final class TapeTest {
    public static void main(String[] args) {
        checkBytes();
        checkFull();
        checkEnd();
        Check.finish();
    }

    private static void checkBytes() {
        Bench bench = new Bench();
        // "abcd...", the highest byte of each int first.
        Check.equal("feed", "20", bench.feed(0x22616263, 0x64656667, 0x68696A6B, 0x6C6D6E6F, 0x70717222));
        Check.equal("count", "20", bench.count(0));
        Check.equal("read", "20", bench.read(0));
        Check.equal("bytes in their order", "\"abcdefghijklmnopqr\"", bench.text(0));
        bench.feed(0x22616263, 0x64656667, 0x68696A6B, 0x6C6D6E6F, 0x70717273);
        Check.equal("a second feed", "40", bench.feed(0x41424344, 0x45464748, 0x494A4B4C, 0x4D4E4F50, 0x51525322));
        Check.equal("read", "40", bench.read(0));
        Check.equal("the second behind the first", "\"abcdefghijklmnopqrsABCDEFGHIJKLMNOPQRS\"", bench.text(0));
        bench.feed(0x22FFFFFF, -1, -1, -1, -1);
        Check.equal("bytes above 127", "broken at 1", bench.read(0));
        bench.feed(0x80000000, 0, 0, 0, 0);
        Check.equal("the highest bit", "broken at 0", bench.read(0));
    }

    private static void checkFull() {
        Bench bench = new Bench();
        for (int n = 1; n <= 204; n++) {
            Check.equal("feed " + n, String.valueOf(20 * n), bench.feed(0x20202020, 0x20202020, 0x20202020, 0x20202020, 0x20202020));
        }
        Check.equal("4080 and 20", Bench.LIMIT, bench.feed(0, 0, 0, 0, 0));
        Check.equal("the tape is as it was", "4080", bench.count(0));
        bench.end(4076);
        Check.equal("4076 and 20 are 4096", "4096", bench.feed(0x20202020, 0x20202020, 0x20202020, 0x20202020, 0x20202031));
        Check.equal("one more", Bench.LIMIT, bench.feed(0, 0, 0, 0, 0));
        bench.end(4096);
        Check.equal("all 4096 are kept", "1", bench.read(0));
        Check.equal("the last byte", "1", bench.text(0));
        bench = new Bench();
        for (int n = 0; n < 204; n++) {
            bench.feed(0, 0, 0, 0, 0);
        }
        bench.end(4077);
        Check.equal("4077 and 20", Bench.LIMIT, bench.feed(0, 0, 0, 0, 0));
    }

    private static void checkEnd() {
        Bench bench = new Bench();
        Check.equal("end of nothing", "0", bench.end(0));
        Check.equal("more than there is", Bench.ARGUMENT, bench.end(1));
        bench.feed(0x31323334, 0x35363738, 0x39000000, 0, 0);
        Check.equal("below 0", Bench.ARGUMENT, bench.end(-1));
        Check.equal("above the length", Bench.ARGUMENT, bench.end(21));
        Check.equal("greatest int", Bench.ARGUMENT, bench.end(Integer.MAX_VALUE));
        Check.equal("smallest int", Bench.ARGUMENT, bench.end(Integer.MIN_VALUE));
        Check.equal("wrong ends change nothing", "20", bench.count(0));
        Check.equal("its length", "20", bench.end(20));
        Check.equal("end", "4", bench.end(4));
        Check.equal("count", "4", bench.count(0));
        Check.equal("what is gone is gone", Bench.ARGUMENT, bench.end(5));
        Check.equal("read", "4", bench.read(0));
        Check.equal("the first bytes are kept", "1234", bench.text(0));
        bench.tape("12").x.end(1);
        bench.tape("34");
        bench.x.read(0);
        Check.equal("feed behind what is kept", "134", bench.text(0));
        bench.tape("777").x.end(0);
        Check.equal("end 0", "broken at 0", bench.read(0));
    }
}
