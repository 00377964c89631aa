import java.util.Arrays;
import java.util.List;
import java.util.Random;

/**
 * Whole runs of 512 calls on one object against the model, with what calls have made used again by
 * others: VALUES grow until they come to the LIMITS. The seed is written here, so each run makes the
 * same calls.
 */
public final class RunsTest {
    private static final int CALLS = 512;
    private static final Random RANDOM = new Random(8128);
    private static final String[] PIECES = {
        "null", "true", "false", "0", "-1", "1", "2", "17", "1000", "1001", "9007199254740991", "9007199254740992", "\"\"", "\"a\"", "\"b\"",
        "\"a\\n\"", "\"\\u0001\"", "\"\\u0080\"", "[]", "{}", "[0]", "[-1]", "[\"a\"]", "[[]]", "[[0]]", "[{}]", "[[\"a\"]]", "{\"a\":1}",
        "[\"a\",0,\"b\"]", "[{\"start\":1}]", "[{\"end\":-1}]", "[{\"start\":1},0]", "[{},\"a\",-1]", "[[{\"start\":1,\"end\":2}],[0]]",
        "{\"b\":[1,2,{\"a\":null}],\"a\":\"xyz\"}", "[[0,0,0,0,0,0,0,0,0,0]]", "[0,0,0,0,0,0,0,0,0,0,0,0,0,0,0]", "[200]", "[\"a\",900]",
        "[\"b\",-1]", "[1,0]", "[\"a\",\"a\",\"a\"]", "[[{}],[\"a\",\"b\"]]", "[1,2", "{\"a\":1,\"a\":2}", "tru", "[1,]", "\"\\x\"", "\"abc", " [ 1 , 2 ] ", "[5,[6,[7,[8,{\"a\":{\"b\":[9]}}]]]]",
    };

    private final Bench bench = new Bench();
    private final Object[] registers = new Object[8];
    private String tape = "";
    private String result = "";
    private int place = -1;
    private int reason = 0;
    private int calls = 0;

    public static void main(String[] args) {
        for (int n = 0; n < 2000; n++) {
            new RunsTest().run();
        }
        Check.finish();
    }

    private void run() {
        while (calls < CALLS - 40) {
            switch (RANDOM.nextInt(12)) {
                case 0:
                case 1:
                case 2:
                    readPiece();
                    break;
                case 3:
                case 4:
                    get();
                    break;
                case 5:
                case 6:
                case 7:
                    set();
                    break;
                case 8:
                    del();
                    break;
                case 9:
                    all();
                    break;
                case 10:
                    others();
                    break;
                default:
                    look();
                    break;
            }
        }
    }

    /** A register, now and then none. */
    private static int register() {
        return RANDOM.nextInt(60) == 0 ? RANDOM.nextBoolean() ? 8 : -1 : RANDOM.nextInt(8);
    }

    /** Mostly a register that holds a PATH, or an ARRAY of PATHS: others are refused soon. */
    private int register(boolean ofPaths) {
        int r = register();
        for (int n = 0; n < 6 && isOne(r) && !(registers[r] instanceof List<?> steps && (!ofPaths || holdsPaths(steps))); n++) {
            r = register();
        }
        return r;
    }

    private static boolean holdsPaths(List<?> paths) {
        return !paths.isEmpty() && paths.stream().allMatch(path -> path instanceof List);
    }

    private static boolean isOne(int... numbers) {
        return Arrays.stream(numbers).allMatch(r -> r >= 0 && r < 8);
    }

    private void equal(String what, Object due, Object got) {
        calls++;
        Check.equal(what + " as call " + calls, due, got);
    }

    private void readPiece() {
        String piece = PIECES[RANDOM.nextInt(PIECES.length)];
        if (RANDOM.nextInt(6) == 0) {
            piece = spoiled(piece);
        }
        int before = tape.length();
        for (int i = 0; i < piece.length(); i += 20) {
            int[] ints = new int[5];
            for (int k = 0; k < 20; k++) {
                ints[k / 4] = ints[k / 4] << 8 | (i + k < piece.length() ? piece.charAt(i + k) : 'x');
            }
            equal("feed", String.valueOf(before + i + 20), bench.feed(ints[0], ints[1], ints[2], ints[3], ints[4]));
        }
        tape += piece;
        equal("end", String.valueOf(tape.length()), bench.end(tape.length()));
        int r = register();
        String due;
        if (isOne(r)) {
            due = read(r);
        } else {
            due = Bench.ARGUMENT;
        }
        equal("read", due, bench.read(r));
    }

    /** With one byte changed to another, mostly one that JSON knows. */
    private static String spoiled(String piece) {
        String known = "[]{},:\"\\0123456789-+.eEabcdefnrtu \t\n";
        int at = RANDOM.nextInt(piece.length());
        char c = RANDOM.nextInt(8) == 0 ? (char) RANDOM.nextInt(256) : known.charAt(RANDOM.nextInt(known.length()));
        return piece.substring(0, at) + c + piece.substring(at + 1);
    }

    private String read(int r) {
        try {
            registers[r] = ModelReader.read(tape);
            place = -1;
            return String.valueOf(Model.printed(registers[r]).length());
        } catch (ModelReader.Broken e) {
            place = e.place;
            return "broken at " + place;
        } finally {
            tape = "";
        }
    }

    private String refused(Model.Refusal e) {
        String outcome = e.getMessage();
        reason = outcome.equals(Bench.TYPE) ? 1 : outcome.equals(Bench.RANGE) ? 2 : reason;
        return outcome;
    }

    private void get() {
        int to = register();
        int a = register();
        int p = register(false);
        String due = Bench.ARGUMENT;
        if (isOne(to, a, p)) {
            try {
                registers[to] = Model.get(registers[a], registers[p]);
                due = Bench.FINE;
            } catch (Model.Refusal e) {
                due = refused(e);
            }
        }
        equal("get " + to + " " + a + " " + p, due, bench.get(to, a, p));
    }

    private void set() {
        int to = register();
        int a = register();
        int p = register(false);
        int v = register();
        String due = Bench.ARGUMENT;
        if (isOne(to, a, p, v)) {
            try {
                registers[to] = Model.set(registers[a], registers[p], registers[v]);
                due = Bench.FINE;
            } catch (Model.Refusal e) {
                due = refused(e);
            }
        }
        equal("set " + to + " " + a + " " + p + " " + v, due, bench.set(to, a, p, v));
    }

    private void del() {
        int to = register();
        int a = register();
        int ps = register(true);
        String due = Bench.ARGUMENT;
        if (isOne(to, a, ps)) {
            try {
                registers[to] = Model.del(registers[a], registers[ps]);
                due = Bench.FINE;
            } catch (Model.Refusal e) {
                due = refused(e);
            }
        }
        equal("del " + to + " " + a + " " + ps, due, bench.del(to, a, ps));
    }

    private void all() {
        int to = register();
        int a = register();
        String due = Bench.ARGUMENT;
        if (isOne(to, a)) {
            try {
                registers[to] = Model.all(registers[a]);
                due = Bench.FINE;
            } catch (Model.Refusal e) {
                due = refused(e);
            }
        }
        equal("all " + to + " " + a, due, bench.all(to, a));
    }

    private void others() {
        int a = register();
        int b = register();
        String due = isOne(a, b) ? String.valueOf(Model.compare(registers[a], registers[b]) == 0) : Bench.ARGUMENT;
        equal("same " + a + " " + b, due, bench.same(a, b));
        List<Integer> counts = List.of(tape.length(), result.length(), place, reason);
        int what = RANDOM.nextInt(4);
        equal("count " + what, String.valueOf(counts.get(what)), bench.count(what));
        equal("count 4", Bench.ARGUMENT, bench.count(4));
    }

    /** Prints a register and looks at some of what has come of it. */
    private void look() {
        int r = register();
        if (isOne(r)) {
            result = Model.printed(registers[r]);
        }
        equal("print " + r, isOne(r) ? String.valueOf(result.length()) : Bench.ARGUMENT, bench.print(r));
        int step = 8 * (1 + result.length() / 64);
        for (int i = RANDOM.nextInt(step); i < result.length() + step; i += step) {
            equal("word " + i, i < result.length() ? word(i) : Bench.LIMIT, bench.word(i));
        }
    }

    private String word(int i) {
        long word = 0;
        for (int k = i; k < i + 8; k++) {
            word = word << 8 | (k < result.length() ? result.charAt(k) : 0);
        }
        return String.valueOf(word);
    }
}
