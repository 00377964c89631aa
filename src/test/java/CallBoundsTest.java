import java.util.ArrayList;
import java.util.List;

/** Each sentence of the document about calls, their numbers and what is thrown, at the bounds and beside them. */
public final class CallBoundsTest {
    private static final int[] NO_REGISTERS = {-1, 8, 9, 255, 256, Integer.MAX_VALUE, Integer.MIN_VALUE};
    private static final int BLANKS = 0x20202020;

    public static void main(String[] args) {
        checkEveryRegister();
        checkNoRegister();
        checkCalls();
        checkFeed();
        checkFeedBytes();
        checkEnd();
        checkResult();
        checkWords();
        checkCounts();
        checkReadEmpties();
        checkRefused();
        checkReasons();
        Check.finish();
    }

    /** "REGISTERS 0 .. 7 hold a VALUE each, null at first." */
    private static void checkEveryRegister() {
        Bench bench = new Bench();
        for (int r = 0; r < 8; r++) {
            Check.equal("new register " + r, "null", bench.text(r));
        }
        for (int r = 0; r < 8; r++) {
            bench.put(r, "[" + r + "]");
        }
        for (int r = 0; r < 8; r++) {
            Check.equal("register " + r, "[" + r + "]", bench.text(r));
        }
        for (int r = 0; r < 8; r++) {
            checkAsEach(r);
        }
    }

    /** Register r as each of the numbers that a call takes. */
    private static void checkAsEach(int r) {
        int other = r == 0 ? 7 : 0;
        int third = r == 3 ? 4 : 3;
        int fourth = r == 5 ? 6 : 5;
        Bench bench = new Bench().put(r, "[0]").put(other, "[5,[6]]").put(fourth, "[[0]]");
        Check.equal("get by " + r, Bench.FINE, bench.get(third, other, r));
        Check.equal("get by " + r, "5", bench.text(third));
        Check.equal("set by " + r, Bench.FINE, bench.set(third, other, r, other));
        Check.equal("set by " + r, "[[5,[6]],[6]]", bench.text(third));
        Check.equal("set of " + r, Bench.FINE, bench.set(third, other, r, r));
        Check.equal("set of " + r, "[[0],[6]]", bench.text(third));
        Check.equal("set in " + r, Bench.FINE, bench.set(third, r, r, other));
        Check.equal("set in " + r, "[[5,[6]]]", bench.text(third));
        Check.equal("del in " + r, Bench.FINE, bench.del(third, r, fourth));
        Check.equal("del in " + r, "[]", bench.text(third));
        Check.equal("all of " + r, Bench.FINE, bench.all(third, r));
        Check.equal("all of " + r, "[[],[0]]", bench.text(third));
        Check.equal("same, " + r, "false", bench.same(r, other));
        Check.equal("same, " + r, "true", bench.same(r, r));
        Check.equal("del by " + r, Bench.TYPE, bench.del(third, other, r));
        Check.equal("get in " + r, Bench.FINE, bench.get(r, r, r));
        Check.equal("get in " + r, "0", bench.text(r));
        Check.equal("all to " + r, Bench.FINE, bench.all(r, other));
        Check.equal("all to " + r, "[[],[0],[1],[1,0]]", bench.text(r));
        Check.equal("del by " + r, Bench.FINE, bench.del(third, other, r));
        Check.equal("del by " + r, "null", bench.text(third));
        Check.equal("del to " + r, Bench.FINE, bench.del(r, other, fourth));
        Check.equal("del to " + r, "[[6]]", bench.text(r));
    }

    /** "IllegalArgumentException: a number out of range", ahead of all else, and it changes nothing. */
    private static void checkNoRegister() {
        for (int wrong : NO_REGISTERS) {
            Bench bench = filled();
            String before = state(bench);
            Check.equal("read " + wrong, Bench.ARGUMENT, bench.read(wrong));
            Check.equal("print " + wrong, Bench.ARGUMENT, bench.print(wrong));
            for (int p = 0; p < 3; p++) {
                // Register 0 is no PATH, 1 is one, 2 is one that would be refused.
                Check.equal("get to " + wrong, Bench.ARGUMENT, bench.get(wrong, 3, p));
                Check.equal("get in " + wrong, Bench.ARGUMENT, bench.get(7, wrong, p));
                Check.equal("set to " + wrong, Bench.ARGUMENT, bench.set(wrong, 3, p, 4));
                Check.equal("set in " + wrong, Bench.ARGUMENT, bench.set(7, wrong, p, 4));
                Check.equal("set of " + wrong, Bench.ARGUMENT, bench.set(7, 3, p, wrong));
                Check.equal("del to " + wrong, Bench.ARGUMENT, bench.del(wrong, 3, p));
                Check.equal("del in " + wrong, Bench.ARGUMENT, bench.del(7, wrong, p));
            }
            Check.equal("get by " + wrong, Bench.ARGUMENT, bench.get(7, 3, wrong));
            Check.equal("set by " + wrong, Bench.ARGUMENT, bench.set(7, 3, wrong, 4));
            Check.equal("del by " + wrong, Bench.ARGUMENT, bench.del(7, 3, wrong));
            Check.equal("all to " + wrong, Bench.ARGUMENT, bench.all(wrong, 3));
            Check.equal("all of " + wrong, Bench.ARGUMENT, bench.all(7, wrong));
            Check.equal("same " + wrong, Bench.ARGUMENT, bench.same(wrong, 3));
            Check.equal("same, " + wrong, Bench.ARGUMENT, bench.same(3, wrong));
            Check.equal("after " + wrong, before, state(bench));
        }
    }

    private static Bench filled() {
        Bench bench = new Bench().put(0, "5").put(1, "[\"a\",0]").put(2, "[\"a\",\"b\"]").put(3, "{\"a\":[1]}").put(4, "true").put(5, "[1000]").put(7, "\"keep\"");
        bench.tape("[1").read(6);
        bench.x.print(3);
        return bench.tape("[[1");
    }

    /** All that a caller can see of an object, but for the REASON; what is on the TAPE is told by its length. */
    private static String state(Bench bench) {
        List<String> all = new ArrayList<>();
        String result = bench.result();
        all.add(result);
        for (int what = 0; what < 3; what++) {
            all.add(bench.count(what));
        }
        for (int r = 0; r < 8; r++) {
            all.add(bench.text(r));
        }
        // Register 3 is the one that filled has printed.
        bench.x.print(3);
        return all.toString();
    }

    /** "An object is used for at most 512 calls after it has been made": up to the last one all hold. */
    private static void checkCalls() {
        StepBench x = new StepBench();
        for (int n = 0; n < 101; n++) {
            Check.equal("feed, time " + n, 20, x.feed(0x5B312C32, 0x5D202020, BLANKS, BLANKS, BLANKS));
            Check.equal("end, time " + n, 20, x.end(20));
            Check.equal("read, time " + n, 5, x.read(n % 8));
            Check.equal("print, time " + n, 5, x.print(n % 8));
            Check.equal("word, time " + n, 0x5B312C325D000000L, x.word(0));
        }
        // 505 calls so far.
        Check.equal("call 506", 20, x.feed(0x5B315D20, BLANKS, BLANKS, BLANKS, BLANKS));
        Check.equal("call 507", 3, x.read(0));
        x.set(1, 1, 0, 0);
        x.all(2, 1);
        Check.equal("call 510", 18, x.print(2));
        Check.equal("call 511", 18, x.count(1));
        Check.equal("call 512", 0x5B5B5D2C5B305D2CL, x.word(0));
    }

    /** "it would have more than 4096: IndexOutOfBoundsException". */
    private static void checkFeed() {
        for (int before : new int[] {4056, 4075, 4076, 4077, 4078, 4080}) {
            Bench bench = new Bench();
            for (int n = 0; n < 204; n++) {
                bench.x.feed(BLANKS, BLANKS, BLANKS, BLANKS, BLANKS);
            }
            bench.x.end(before);
            String due = before + 20 <= 4096 ? String.valueOf(before + 20) : Bench.LIMIT;
            Check.equal("feed behind " + before, due, bench.feed(0x31202020, BLANKS, BLANKS, BLANKS, BLANKS));
            Check.equal("tape behind " + before, before + 20 <= 4096 ? before + 20 : before, bench.x.count(0));
            Check.equal("read behind " + before, before + 20 <= 4096 ? "1" : "broken at " + before, bench.read(0));
        }
    }

    /** "The 20 bytes of five ints, the highest of each first": every byte, at each of the 20. */
    private static void checkFeedBytes() {
        for (int at = 0; at < 20; at++) {
            for (int b = 0; b < 256; b += at == 0 ? 1 : 17) {
                int[] ints = {BLANKS, BLANKS, BLANKS, BLANKS, BLANKS};
                int low = 24 - at % 4 * 8;
                ints[at / 4] = ints[at / 4] & ~(0xFF << low) | b << low;
                Bench bench = new Bench();
                bench.x.feed(ints[0], ints[1], ints[2], ints[3], ints[4]);
                String outcome = bench.read(0);
                if (b >= '0' && b <= '9') {
                    Check.equal("byte " + b + " at " + at, String.valueOf((char) b), bench.text(0));
                } else {
                    boolean begins = "[{\"-ntf".indexOf((char) b) >= 0;
                    boolean blank = "\t\n\r ".indexOf((char) b) >= 0;
                    boolean box = b == '[' || b == '{' || b == '"';
                    Check.equal("byte " + b + " at " + at, "broken at " + (blank || box ? 20 : begins ? at + 1 : at), outcome);
                }
            }
        }
    }

    /** "The TAPE keeps its first n bytes, n 0 .. its length." */
    private static void checkEnd() {
        for (int length : new int[] {0, 1, 19, 20, 4095, 4096}) {
            for (int n : new int[] {Integer.MIN_VALUE, -1, 0, 1, length - 1, length, length + 1, Integer.MAX_VALUE}) {
                Bench bench = new Bench().tape(" ".repeat(length));
                boolean fine = n >= 0 && n <= length;
                Check.equal("end(" + n + ") of " + length, fine ? String.valueOf(n) : Bench.ARGUMENT, bench.end(n));
                Check.equal("length after end(" + n + ") of " + length, fine ? n : length, bench.x.count(0));
                Check.equal("read after end(" + n + ") of " + length, "broken at " + (fine ? n : length), bench.read(0));
            }
        }
    }

    /** "THE TAPE and THE RESULT have at most 4096 bytes." */
    private static void checkResult() {
        for (int length : new int[] {4095, 4096}) {
            String text = "\"" + "abcdefghijklmnopqrstuvwxyz".repeat(158).substring(0, length - 2) + "\"";
            Bench bench = new Bench().put(7, text);
            Check.equal("print of " + length, String.valueOf(length), bench.print(7));
            Check.equal("count of " + length, length, bench.x.count(1));
            Check.equal("result of " + length, text, bench.result());
            Check.equal("last byte of " + length, 0x2200000000000000L, bench.x.word(length - 1));
            Check.equal("behind " + length, Bench.LIMIT, bench.word(length));
            long last = 0;
            for (int i = length - 8; i < length; i++) {
                last = last << 8 | text.charAt(i);
            }
            Check.equal("last word of " + length, last, bench.x.word(length - 8));
            Check.equal("one on", last << 8, bench.x.word(length - 7));
        }
    }

    /** "8 bytes of THE RESULT from i on, the highest first, zeros behind its end; i is none of its bytes: IndexOutOfBoundsException". */
    private static void checkWords() {
        for (String text : new String[] {"7", "12", "null", "[1,2,3]", "[1,2,34]", "[1,23,456]", "[1,2,3,4,5,6,7,8]"}) {
            Bench bench = new Bench().put(0, "[" + Bench.times(20, "7", ",") + "]").put(1, text);
            bench.x.print(0);
            bench.x.print(1);
            for (int i = -9; i <= text.length() + 9; i++) {
                long due = 0;
                for (int k = i; k < i + 8; k++) {
                    due = due << 8 | (k >= 0 && k < text.length() ? text.charAt(k) : 0);
                }
                boolean there = i >= 0 && i < text.length();
                Check.equal("word(" + i + ") of " + text, there ? String.valueOf(due) : Bench.LIMIT, bench.word(i));
            }
            for (int i : new int[] {Integer.MIN_VALUE, Integer.MAX_VALUE, Integer.MAX_VALUE - 7, 4095, 4096}) {
                Check.equal("word(" + i + ") of " + text, Bench.LIMIT, bench.word(i));
            }
        }
        Bench none = new Bench();
        for (int i : new int[] {-1, 0, 1, 7, 8}) {
            Check.equal("word(" + i + ") of nothing", Bench.LIMIT, none.word(i));
        }
    }

    /** "what 0 .. 3." */
    private static void checkCounts() {
        Bench bench = filled();
        for (int wrong : new int[] {-2, -1, 4, 5, 256, Integer.MIN_VALUE, Integer.MAX_VALUE}) {
            Check.equal("count(" + wrong + ")", Bench.ARGUMENT, bench.count(wrong));
        }
        Check.equal("count(0)", "3", bench.count(0));
        Check.equal("count(1)", "9", bench.count(1));
        Check.equal("count(2)", "2", bench.count(2));
        Check.equal("count(3)", "0", bench.count(3));
        bench.set(0, 3, 2, 0);
        Check.equal("count(3)", "1", bench.count(3));
    }

    /** "The TAPE, which is empty then (also if this throws, but for r)". */
    private static void checkReadEmpties() {
        for (String json : new String[] {"1", "[1]", "", " ", "[1", "x", "9007199254740992", "{\"a\":1,\"a\":2}", "[".repeat(41)}) {
            for (int r : new int[] {-1, 0, 7, 8}) {
                Bench bench = new Bench().put(0, "\"old\"").put(7, "\"old\"").tape(json);
                String outcome = bench.read(r);
                boolean wrong = r < 0 || r > 7;
                Check.equal("tape after " + json + " to " + r, wrong ? json.length() : 0, bench.x.count(0));
                Check.equal("argument, " + json + " to " + r, wrong, outcome.equals(Bench.ARGUMENT));
                boolean read = json.equals("1") || json.equals("[1]");
                Check.equal("register after " + json + " to " + r, read && r == 0 ? json : "\"old\"", bench.text(0));
                Check.equal("register after " + json + " to " + r, read && r == 7 ? json : "\"old\"", bench.text(7));
                Check.equal("place after " + json + " to " + r, wrong || read ? -1 : Integer.parseInt(outcome.substring(10)), bench.x.count(2));
            }
        }
    }

    /** "A call that throws changes nothing (but the REASON)", whichever register would be changed. */
    private static void checkRefused() {
        for (int to = 0; to < 8; to++) {
            Bench bench = filled();
            String before = state(bench);
            Check.equal("get of what is no path", Bench.TYPE, bench.get(to, 3, 0));
            Check.equal("get", Bench.TYPE, bench.get(to, 3, 2));
            Check.equal("set of what is no path", Bench.TYPE, bench.set(to, 3, 0, 4));
            Check.equal("set", Bench.TYPE, bench.set(to, 3, 2, 4));
            Check.equal("set within", Bench.TYPE, bench.set(to, 3, 5, 4));
            Check.equal("del of what is no array", Bench.TYPE, bench.del(to, 3, 0));
            Check.equal("del of what is no path", Bench.TYPE, bench.del(to, 3, 1));
            Check.equal("the reason", "1", bench.count(3));
            Check.equal("set to " + to, Bench.LIMIT, bench.set(to, 6, 5, 4));
            Check.equal("the reason", "1", bench.count(3));
            Check.equal("after a type, to " + to, before, state(bench));
        }
        for (int to = 0; to < 8; to++) {
            checkOthersThatThrow(to);
        }
    }

    private static void checkOthersThatThrow(int to) {
        Bench bench = new Bench().put(0, "[-2]").put(1, "[[1],[\"a\"]]").put(2, "[" + Bench.times(101, "[]", ",") + "]").put(3, "[5,6]");
        bench.put(4, "[" + Bench.times(701, "0", ",") + "]").put(5, "[1001]").put(6, "[[" + Bench.times(101, "0", ",") + "]]");
        bench.tape("[,").read(7);
        bench.x.print(3);
        bench.tape("7");
        // With texts as long as these, telling them all would take more than 512 calls.
        String before = lengths(bench);
        Check.equal("set from the end", Bench.RANGE, bench.set(to, 1, 5, 3));
        Check.equal("set from the end", Bench.RANGE, bench.set(to, 7, 0, 3));
        Check.equal("del of too many steps", Bench.RANGE, bench.del(to, 3, 6));
        Check.equal("the reason", "2", bench.count(3));
        Check.equal("del, with something taken out", Bench.TYPE, bench.del(to, 3, 1));
        Check.equal("the reason", "1", bench.count(3));
        Check.equal("del of too many", Bench.LIMIT, bench.del(to, 3, 2));
        Check.equal("all of too many", Bench.LIMIT, bench.all(to, 4));
        Check.equal("word", Bench.LIMIT, bench.word(5));
        Check.equal("end", Bench.ARGUMENT, bench.end(2));
        Check.equal("count", Bench.ARGUMENT, bench.count(4));
        Check.equal("the reason", "1", bench.count(3));
        Check.equal("after what throws, to " + to, before, lengths(bench));
        Check.equal("what was taken out, to " + to, "[5,6]", bench.text(3));
    }

    private static String lengths(Bench bench) {
        StringBuilder all = new StringBuilder(bench.result());
        for (int what = 0; what < 3; what++) {
            all.append(' ').append(bench.count(what));
        }
        for (int r = 0; r < 8; r++) {
            all.append(' ').append(bench.print(r));
        }
        bench.x.print(3);
        return all.toString();
    }

    /** "3 REASON of the latest call that was REFUSED (others leave it), 0 before." */
    private static void checkReasons() {
        Bench bench = new Bench().put(0, "[1]").put(1, "[-2]").put(2, "[\"a\"]").put(3, "[1000]").put(4, "[0]").put(5, "[[]]");
        String[] outcomes = {Bench.TYPE, Bench.RANGE};
        Check.equal("before", 0, bench.x.count(3));
        for (int n = 0; n < 6; n++) {
            Check.equal("refused", outcomes[n % 2], bench.set(7, 0, n % 2 == 0 ? 2 : 1, 0));
            int due = n % 2 == 0 ? 1 : 2;
            Check.equal("reason", due, bench.x.count(3));
            Check.equal("fine", Bench.FINE, bench.set(7, 0, 4, 0));
            Check.equal("fine", Bench.FINE, bench.get(7, 0, 1));
            Check.equal("fine", Bench.FINE, bench.del(7, 0, 5));
            Check.equal("limit", Bench.LIMIT, bench.set(7, 6, 3, 0));
            Check.equal("argument", Bench.ARGUMENT, bench.set(8, 6, 2, 0));
            Check.equal("broken", "broken at 0", bench.read(7));
            Check.equal("left", due, bench.x.count(3));
        }
    }
}
