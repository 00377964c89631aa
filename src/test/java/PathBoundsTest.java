/** Each sentence of the document about PATHS that names a bound, at the bound and beside it. */
public final class PathBoundsTest {
    private static final String[] NO_ARRAYS = {"null", "false", "true", "0", "-1", "\"\"", "\"a\"", "{}", "{\"start\":0}"};
    private static final String[] NO_STEPS = {"null", "false", "true", "[]", "[0]", "[\"a\"]"};
    private static final long[] FAR = {-9007199254740991L, -4294967297L, -4294967296L, 4294967296L, 9007199254740991L};

    public static void main(String[] args) {
        checkNoArray();
        checkNoStep();
        checkNames();
        checkPlaces();
        checkParts();
        checkNoBounds();
        checkBehindNull();
        checkPlacesTo1000();
        checkPlacesInPartsTo1000();
        checkFirstWrong();
        checkHundredSteps();
        checkHundredStepsOfAll();
        checkHundredPaths();
        checkEmptyPath();
        Check.finish();
    }

    private static void leads(String a, String p, String due) {
        Check.equal("get " + p + " of " + a, due, Bench.gotten(a, p));
    }

    private static void makes(String a, String p, String v, String due) {
        Check.equal("set " + p + " of " + a + " to " + v, due, Bench.made(a, p, v));
    }

    private static void leaves(String a, String ps, String due) {
        Check.equal("del " + ps + " of " + a, due, Bench.left(a, ps));
    }

    /** "A PATH is an ARRAY of steps (what is no ARRAY is "type")", whatever it would be a PATH into. */
    private static void checkNoArray() {
        for (String wrong : NO_ARRAYS) {
            for (String a : new String[] {"null", "true", "1", "\"a\"", "[]", "[1]", "{}", "{\"a\":1}"}) {
                leads(a, wrong, Bench.TYPE);
                makes(a, wrong, "[]", Bench.TYPE);
                leaves(a, wrong, Bench.TYPE);
                leaves(a, "[" + wrong + "]", Bench.TYPE);
                leaves(a, "[[]," + wrong + "]", Bench.TYPE);
                leaves(a, "[" + wrong + ",[]]", Bench.TYPE);
            }
        }
        leads("[1]", "[]", "[1]");
        makes("[1]", "[]", "2", "2");
        leaves("[1]", "[]", "[1]");
    }

    /** "true, null or an ARRAY as a step, too: "type"". */
    private static void checkNoStep() {
        for (String step : NO_STEPS) {
            for (String a : new String[] {"false", "true", "0", "\"\"", "\"a\"", "[]", "[1]", "{}", "{\"a\":1}"}) {
                leads(a, "[" + step + "]", Bench.TYPE);
                leads("[" + a + "]", "[0," + step + "]", Bench.TYPE);
                makes(a, "[" + step + "]", "[]", Bench.TYPE);
                makes("[" + a + "]", "[0," + step + "]", "[]", Bench.TYPE);
                leaves(a, "[[" + step + "]]", Bench.TYPE);
                leaves("[" + a + "]", "[[0," + step + "]]", Bench.TYPE);
                leaves("[" + a + "]", "[[0," + step + ",0]]", Bench.TYPE);
            }
            leads("[1]", "[{}," + step + "]", Bench.TYPE);
            leads("\"a\"", "[{}," + step + "]", Bench.TYPE);
            makes("[1]", "[{}," + step + "]", "[]", Bench.TYPE);
            makes("null", "[" + step + "]", "[]", Bench.TYPE);
            makes("null", "[\"a\"," + step + "]", "[]", Bench.TYPE);
            leaves("[1]", "[[{}," + step + "]]", Bench.TYPE);
        }
    }

    /** "a STRING (of an OBJECT)"; "a name ... that is not there: null". */
    private static void checkNames() {
        String a = "{\"a\":1,\"\":2,\"ab\":null}";
        leads(a, "[\"a\"]", "1");
        leads(a, "[\"\"]", "2");
        leads(a, "[\"ab\"]", "null");
        leads(a, "[\"b\"]", "null");
        leads(a, "[\"A\"]", "null");
        leads(a, "[\"a\\u0000\"]", "null");
        makes(a, "[\"a\\u0000\"]", "3", "{\"a\":1,\"\":2,\"ab\":null,\"a\\u0000\":3}");
        leaves(a, "[[\"a\\u0000\"]]", a);
        leads("{}", "[\"\"]", "null");
        makes("{}", "[\"\"]", "3", "{\"\":3}");
        leaves("{}", "[[\"\"]]", "{}");
        for (String other : new String[] {"true", "1", "\"a\"", "[]", "[1]"}) {
            leads(other, "[\"a\"]", Bench.TYPE);
            makes(other, "[\"a\"]", "1", Bench.TYPE);
            leaves(other, "[[\"a\"]]", Bench.TYPE);
        }
    }

    /** "a NUMBER (of an ARRAY, from the end if below 0)"; "a place that is not there: null"; "from the end: none there is "range"". */
    private static void checkPlaces() {
        for (int size = 0; size <= 3; size++) {
            String a = row(0, size);
            for (int n = -size - 2; n <= size + 2; n++) {
                int place = n < 0 ? n + size : n;
                boolean there = place >= 0 && place < size;
                leads(a, "[" + n + "]", there ? String.valueOf(place) : "null");
                leaves(a, "[[" + n + "]]", there ? "[" + joined(elements(0, place), elements(place + 1, size)) + "]" : a);
                String nulls = place > size ? Bench.times(place - size, "null", ",") : "";
                String grown = "[" + joined(elements(0, Math.min(Math.max(place, 0), size)), nulls, "9", elements(place + 1, size)) + "]";
                makes(a, "[" + n + "]", "9", place < 0 ? Bench.RANGE : grown);
            }
            for (long n : FAR) {
                leads(a, "[" + n + "]", "null");
                leaves(a, "[[" + n + "]]", a);
                makes(a, "[" + n + "]", "9", Bench.RANGE);
            }
        }
        makes("null", "[0]", "9", "[9]");
        makes("null", "[1]", "9", "[null,9]");
        makes("null", "[-1]", "9", Bench.RANGE);
        for (String other : new String[] {"true", "1", "\"a\"", "{}", "{\"0\":1}"}) {
            for (String place : new String[] {"0", "-1", "1001"}) {
                leads(other, "[" + place + "]", Bench.TYPE);
                makes(other, "[" + place + "]", "1", Bench.TYPE);
                leaves(other, "[[" + place + "]]", Bench.TYPE);
            }
        }
    }

    /**
     * "the part of an ARRAY or STRING from start (null: 0) to before end (null: the end), from the end
     * if below 0, as far as there is something; end before start: nothing, at start": all starts and
     * ends about an ARRAY or STRING of up to three.
     */
    private static void checkParts() {
        for (int size = 0; size <= 3; size++) {
            for (int start = -size - 2; start <= size + 3; start++) {
                for (int end = -size - 2; end <= size + 3; end++) {
                    checkPart(size, start, end);
                }
            }
        }
        for (long n : FAR) {
            String low = n < 0 ? "[0,1,2]" : "[]";
            leads("[0,1,2]", "[{\"start\":" + n + "}]", low);
            leads("[0,1,2]", "[{\"end\":" + n + "}]", n < 0 ? "[]" : "[0,1,2]");
            makes("[0,1,2]", "[{\"start\":" + n + "}]", "[9]", n < 0 ? "[9]" : "[0,1,2,9]");
            makes("[0,1,2]", "[{\"end\":" + n + "}]", "[9]", n < 0 ? "[9,0,1,2]" : "[9]");
            leaves("[0,1,2]", "[[{\"start\":" + n + "}]]", n < 0 ? "[]" : "[0,1,2]");
        }
    }

    /** A start or end that is one above the row's end stands for none: left out, or null. */
    private static void checkPart(int size, int start, int end) {
        boolean noStart = start == size + 3;
        boolean noEnd = end == size + 3;
        int low = noStart ? 0 : within(start < 0 ? start + size : start, size);
        int high = Math.max(low, noEnd ? size : within(end < 0 ? end + size : end, size));
        String a = row(0, size);
        String string = "\"" + "012".substring(0, size) + "\"";
        String left = "[" + joined(elements(0, low), elements(high, size)) + "]";
        for (String step : steps(noStart ? null : start, noEnd ? null : end)) {
            leads(a, "[" + step + "]", row(low, high));
            leads(string, "[" + step + "]", "\"" + "012".substring(low, high) + "\"");
            leaves(a, "[[" + step + "]]", left);
            makes(a, "[" + step + "]", "[]", left);
            makes(a, "[" + step + "]", "[8,9]", "[" + joined(elements(0, low), "8,9", elements(high, size)) + "]");
            makes(a, "[" + step + "]", "9", Bench.TYPE);
            makes(a, "[" + step + ",0]", "9", "[" + joined(elements(0, low), "9", elements(Math.min(low + 1, high), size)) + "]");
            makes(a, "[" + step + ",-1]", "9", low == high ? Bench.RANGE : "[" + joined(elements(0, high - 1), "9", elements(high, size)) + "]");
            makes(a, "[" + step + "," + (high - low) + "]", "9", "[" + joined(elements(0, high), "9", elements(high, size)) + "]");
            makes(string, "[" + step + "]", "[]", Bench.TYPE);
            leaves(string, "[[" + step + "]]", Bench.TYPE);
            makes("null", "[" + step + "]", "[8,9]", "[8,9]");
        }
    }

    private static String[] steps(Integer start, Integer end) {
        String both = "{\"start\":" + start + ",\"end\":" + end + "}";
        String among = "{\"ends\":true,\"end\":" + end + ",\"\":[],\"start\":" + start + ",\"Start\":\"x\"}";
        if (start == null || end == null) {
            String one = start != null ? "\"start\":" + start : end != null ? "\"end\":" + end : "";
            return new String[] {both, among, "{" + one + "}"};
        }
        return new String[] {both, among};
    }

    private static int within(int n, int size) {
        return n < 0 ? 0 : n > size ? size : n;
    }

    private static String row(int from, int to) {
        return "[" + elements(from, to) + "]";
    }

    private static String elements(int from, int to) {
        StringBuilder all = new StringBuilder();
        for (int n = from; n < to; n++) {
            all.append(n == from ? "" : ",").append(n);
        }
        return all.toString();
    }

    private static String joined(String... pieces) {
        StringBuilder all = new StringBuilder();
        for (String piece : pieces) {
            all.append(all.length() == 0 || piece.isEmpty() ? "" : ",").append(piece);
        }
        return all.toString();
    }

    /** "NUMBERS or null (else "type")". */
    private static void checkNoBounds() {
        for (String bound : new String[] {"false", "true", "\"\"", "\"1\"", "[]", "[1]", "{}"}) {
            for (String step : new String[] {"{\"start\":" + bound + "}", "{\"end\":" + bound + "}", "{\"start\":0,\"end\":" + bound + "}"}) {
                for (String a : new String[] {"[]", "[1]", "\"\"", "\"a\"", "{}", "1", "true"}) {
                    leads(a, "[" + step + "]", Bench.TYPE);
                    makes(a, "[" + step + "]", "[]", Bench.TYPE);
                    leaves(a, "[[" + step + "]]", Bench.TYPE);
                }
                makes("null", "[" + step + "]", "[]", Bench.TYPE);
                makes("null", "[" + step + ",-1]", "[]", Bench.TYPE);
                leads("null", "[" + step + "]", "null");
                leaves("null", "[[" + step + "]]", "null");
            }
        }
        for (String a : new String[] {"false", "true", "1", "{}", "{\"start\":1}"}) {
            leads(a, "[{}]", Bench.TYPE);
            makes(a, "[{}]", "[]", Bench.TYPE);
            leaves(a, "[[{}]]", Bench.TYPE);
        }
    }

    /** "of null null (what comes behind is not looked at, by get and del)"; by set it is. */
    private static void checkBehindNull() {
        for (String step : NO_STEPS) {
            for (String way : new String[] {"\"b\"", "\"n\"", "\"b\",\"c\"", "\"n\",7", "\"n\",{}", "\"l\",2", "\"l\",-3", "\"l\",0", "\"l\",{},5"}) {
                String a = "{\"a\":1,\"n\":null,\"l\":[null,5]}";
                leads(a, "[" + way + "," + step + "]", "null");
                leads(a, "[" + way + "," + step + ",true,-1]", "null");
                leaves(a, "[[" + way + "," + step + "]]", a);
                leaves(a, "[[" + way + "," + step + ",true,-1]]", a);
            }
            for (String way : new String[] {"\"b\"", "\"n\"", "\"b\",\"c\"", "\"n\",7", "\"n\",{}", "\"l\",2", "\"l\",0", "\"l\",{},5"}) {
                makes("{\"a\":1,\"n\":null,\"l\":[null,5]}", "[" + way + "," + step + "]", "[]", Bench.TYPE);
            }
        }
        // What null is at the very end of a PATH is something that can be taken out.
        leaves("{\"a\":1,\"n\":null,\"l\":[null,5]}", "[[\"n\"],[\"l\",0]]", "{\"a\":1,\"l\":[5]}");
        leaves("null", "[[0],[\"a\"],[{}],[-1]]", "null");
    }

    private static String long1002() {
        return "[" + Bench.times(1002, "0", ",") + "]";
    }

    private static String longWith9(int size, int place) {
        return "[" + joined(Bench.times(place, "0", ","), "9", Bench.times(size - place - 1, "0", ",")) + "]";
    }

    /** "above 1000 "range", also where there is one". */
    private static void checkPlacesTo1000() {
        for (int place : new int[] {998, 999, 1000}) {
            makes(long1002(), "[" + place + "]", "9", longWith9(1002, place));
            makes(long1002(), "[" + (place - 1002) + "]", "9", longWith9(1002, place));
            makes("[" + Bench.times(place, "0", ",") + "]", "[" + place + "]", "9", longWith9(place + 1, place));
            makes("[" + Bench.times(place - 1, "0", ",") + "]", "[" + place + "]", "9", "[" + Bench.times(place - 1, "0", ",") + ",null,9]");
            makes("null", "[" + place + "]", "9", Bench.LIMIT);
            makes("[]", "[" + place + "]", "9", Bench.LIMIT);
            makes("{}", "[\"a\"," + place + "]", "9", Bench.LIMIT);
        }
        for (long place : new long[] {1001, 1002, 1003, 4294967296L, 4294967297L, 9007199254740991L}) {
            makes(long1002(), "[" + place + "]", "9", Bench.RANGE);
            makes("null", "[" + place + "]", "9", Bench.RANGE);
            makes("[]", "[" + place + "]", "9", Bench.RANGE);
            makes("{}", "[\"a\"," + place + "]", "9", Bench.RANGE);
        }
        makes(long1002(), "[-1]", "9", Bench.RANGE);
        makes(long1002(), "[-1002]", "9", longWith9(1002, 0));
        makes(long1002(), "[-1003]", "9", Bench.RANGE);
        // get and del know no such bound.
        leads(longWith9(1002, 1001), "[1001]", "9");
        leads(longWith9(1002, 1001), "[-1]", "9");
        leaves(long1002(), "[[1001],[1000]]", "[" + Bench.times(1000, "0", ",") + "]");
        // A part may begin or end above 1000.
        makes(long1002(), "[{\"start\":1001}]", "[9]", longWith9(1002, 1001));
        makes(long1002(), "[{\"start\":1002,\"end\":5000}]", "[9]", longWith9(1003, 1002));
    }

    /** "behind it a place is one in the part (which grows as an ARRAY)": the same bounds, within the part. */
    private static void checkPlacesInPartsTo1000() {
        makes(long1002(), "[{\"start\":1},999]", "9", longWith9(1002, 1000));
        makes(long1002(), "[{\"start\":1},1000]", "9", longWith9(1002, 1001));
        makes(long1002(), "[{\"start\":1},-1]", "9", longWith9(1002, 1001));
        makes(long1002(), "[{\"start\":1},1001]", "9", Bench.RANGE);
        makes(long1002(), "[{\"start\":2},1000]", "9", longWith9(1003, 1002));
        makes(long1002(), "[{},1000]", "9", longWith9(1002, 1000));
        makes(long1002(), "[{},1001]", "9", Bench.RANGE);
        makes(long1002(), "[{},-1]", "9", Bench.RANGE);
        makes("[0,1,2]", "[{\"start\":1,\"end\":2},-1]", "9", "[0,9,2]");
        makes("[0,1,2]", "[{\"start\":1,\"end\":2},-2]", "9", Bench.RANGE);
        makes("null", "[{\"start\":1},0]", "9", "[9]");
        makes("null", "[{\"start\":1},-1]", "9", Bench.RANGE);
        makes("null", "[{\"start\":1},1000]", "9", Bench.LIMIT);
        makes("null", "[{\"start\":1},1001]", "9", Bench.RANGE);
        makes("[]", "[{\"start\":1},2]", "9", "[null,null,9]");
        makes("[0,1,2]", "[{\"start\":1,\"end\":2},\"a\"]", "[]", Bench.TYPE);
        makes("null", "[{},\"a\"]", "[]", Bench.TYPE);
        makes("[]", "[{},\"a\"]", "[]", Bench.TYPE);
    }

    /** "what is wrong at a step being told before what is behind it (but a name behind a part: behind it)". */
    private static void checkFirstWrong() {
        String[] type = {"true", "null", "[]", "{\"start\":\"\"}"};
        String[] range = {"-1", "1001"};
        for (String t : type) {
            for (String r : range) {
                for (String a : new String[] {"null", "[]", "[null]"}) {
                    makes(a, "[" + t + "," + r + "]", "[]", Bench.TYPE);
                    makes(a, "[0,0," + t + "," + r + "]", "[]", Bench.TYPE);
                    makes(a, "[0,0," + r + "," + t + "]", "[]", Bench.RANGE);
                    makes(a, "[0,{}," + t + "," + r + "]", "[]", Bench.TYPE);
                    makes(a, "[0,{}," + r + "," + t + "]", "[]", Bench.RANGE);
                    makes(a, "[{},\"a\"," + r + "," + t + "]", "[]", Bench.RANGE);
                    makes(a, "[{},\"a\"," + t + "," + r + "]", "[]", Bench.TYPE);
                    makes(a, "[{},\"a\",\"b\"," + r + "]", "[]", Bench.RANGE);
                    makes(a, "[{},\"a\",0]", "[]", Bench.TYPE);
                }
                makes("{}", "[" + r + "," + t + "]", "[]", Bench.TYPE);
                makes("[[]]", "[\"a\"," + r + "]", "[]", Bench.TYPE);
            }
        }
        // "an ARRAY (else "type")": whether v is one is looked at behind all steps.
        makes("null", "[{},-1]", "1", Bench.RANGE);
        makes("[1]", "[{},1001]", "1", Bench.RANGE);
        makes("[1]", "[0,{}]", "1", Bench.TYPE);
    }

    private static String path(int steps, String step) {
        return "[" + Bench.times(steps, step, ",") + "]";
    }

    /** "PATHS of more than 100 steps: "range" in set and del (behind "type" of what is no ARRAY, before all else ...)". */
    private static void checkHundredSteps() {
        for (int steps = 99; steps <= 102; steps++) {
            boolean fine = steps <= 100;
            String parts = path(steps, "{}");
            makes("[1]", parts, "[2]", fine ? "[2]" : Bench.RANGE);
            makes("true", parts, "[2]", fine ? Bench.TYPE : Bench.RANGE);
            makes("null", path(steps, "0"), "2", fine ? Bench.LIMIT : Bench.RANGE);
            makes("[1]", path(steps, "true"), "2", fine ? Bench.TYPE : Bench.RANGE);
            leaves("[1]", "[" + parts + "]", fine ? "[]" : Bench.RANGE);
            leaves("true", "[" + parts + "]", fine ? Bench.TYPE : Bench.RANGE);
            leaves("null", "[" + path(steps, "true") + "]", fine ? "null" : Bench.RANGE);
            leaves("null", "[[]," + parts + "]", fine ? "null" : Bench.RANGE);
            leaves("null", "[" + parts + ",7]", Bench.TYPE);
            leaves("null", "[7," + parts + "]", Bench.TYPE);
            // All are looked at before any is taken out, and so before one is wrong.
            leaves("[1]", "[[\"a\"]," + parts + "]", fine && steps < 100 ? Bench.TYPE : fine ? Bench.LIMIT : Bench.RANGE);
            leaves("[1]", "[" + parts + ",[{},\"a\"]]", fine ? Bench.LIMIT : Bench.RANGE);
            // No such bound for get.
            leads("[1]", parts, "[1]");
            leads("true", parts, Bench.TYPE);
            leads("null", path(steps, "true"), "null");
        }
        makes("null", "{\"a\":" + path(101, "0") + "}", "1", Bench.TYPE);
        leaves("null", "{\"a\":" + path(101, "0") + "}", Bench.TYPE);
        leads("[1]", path(1300, "{}"), "[1]");
    }

    /** "or 100 steps of all of them: a LIMIT". */
    private static void checkHundredStepsOfAll() {
        for (int more = 48; more <= 52; more++) {
            boolean fine = 50 + more <= 100;
            leaves("[1]", "[" + path(50, "{}") + "," + path(more, "{}") + "]", fine ? "[]" : Bench.LIMIT);
            leaves("true", "[" + path(50, "{}") + "," + path(more, "{}") + "]", fine ? Bench.TYPE : Bench.LIMIT);
            leaves("null", "[[]," + path(50, "0") + ",[]," + path(more, "0") + "]", fine ? "null" : Bench.LIMIT);
            leaves("null", "[" + path(50, "0") + "," + path(more, "0") + ",7]", Bench.TYPE);
            leaves("null", "[" + path(50, "0") + "," + path(more, "0") + "," + path(101, "0") + "]", Bench.RANGE);
        }
        for (int paths = 98; paths <= 100; paths++) {
            leaves("{\"a\":1}", "[[\"a\",0]," + Bench.times(paths - 1, "[\"b\"]", ",") + "]", paths < 100 ? Bench.TYPE : Bench.LIMIT);
        }
    }

    /** "more than 100 PATHS in del ...: a LIMIT"; "the LIMIT stands ahead of a "type" that one of them would be". */
    private static void checkHundredPaths() {
        for (int paths = 99; paths <= 102; paths++) {
            boolean fine = paths <= 100;
            leaves("[1]", path(paths, "[]"), fine ? "null" : Bench.LIMIT);
            leaves("null", path(paths, "[]"), fine ? "null" : Bench.LIMIT);
            leaves("[" + Bench.times(110, "7", ",") + "]", path(paths, "[0]"), fine ? "[" + Bench.times(110 - paths, "7", ",") + "]" : Bench.LIMIT);
            leaves("{\"a\":1}", path(paths, "[0]"), fine ? Bench.TYPE : Bench.LIMIT);
            leaves("{\"a\":1}", "[[true]," + Bench.times(paths - 1, "[]", ",") + "]", fine ? Bench.TYPE : Bench.LIMIT);
            leaves("{\"a\":1}", "[" + Bench.times(paths - 1, "[]", ",") + ",[true]]", fine ? Bench.TYPE : Bench.LIMIT);
            // But for what is no ARRAY, and for too many steps, in this order.
            leaves("[1]", "[" + Bench.times(paths - 1, "[]", ",") + ",7]", Bench.TYPE);
            leaves("[1]", "[7," + Bench.times(paths - 1, "[]", ",") + "]", Bench.TYPE);
            leaves("[1]", "[" + Bench.times(paths - 1, "[]", ",") + "," + path(101, "0") + "]", Bench.RANGE);
            leaves("[1]", "[" + path(101, "0") + "," + Bench.times(paths - 1, "[]", ",") + ",7]", Bench.TYPE);
        }
    }

    /** "del by the empty PATH, [], makes null of all." */
    private static void checkEmptyPath() {
        for (String a : new String[] {"null", "true", "0", "\"\"", "\"a\"", "[]", "[1,[2]]", "{}", "{\"a\":1}"}) {
            leaves(a, "[[]]", "null");
            leaves(a, "[[],[]]", "null");
            leaves(a, "[]", a);
        }
        leaves("[1,2]", "[[0],[],[1]]", "null");
        leaves("{\"a\":1}", "[[],[\"a\"],[\"b\"]]", "null");
    }
}
