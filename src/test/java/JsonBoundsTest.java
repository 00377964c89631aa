/** Each sentence of the document about VALUES, JSON and PRINTED that names a bound, at the bound and beside it. */
public final class JsonBoundsTest {
    /** JSON with every kind of sign in it; no sign may be left out. */
    private static final String EVERY_SIGN = "{\"a\":[10,-2,0,true,false,null,\"x\\n\\u0041\\/\"],\"b\":{},\"c\":[[]]}";
    private static final String DIGITS = "0123456789abcdefABCDEF";

    public static void main(String[] args) {
        checkNumberSize();
        checkNumberBeginnings();
        checkCharacters();
        checkEscapes();
        checkHexDigits();
        checkHexBelow128();
        checkBlanks();
        checkBeginnings();
        checkNames();
        checkNesting();
        checkTooShort();
        checkWrongByte();
        checkTapeLength();
        Check.finish();
    }

    private static String outcome(String json) {
        Bench bench = new Bench().tape(json);
        String outcome = bench.read(0);
        return outcome.startsWith("broken") || outcome.equals(Bench.LIMIT) ? outcome : bench.text(0);
    }

    private static void reads(String json, String printed) {
        Check.equal("read " + json, printed, outcome(json));
    }

    private static void breaks(String json, int place) {
        Check.equal("read " + json, "broken at " + place, outcome(json));
    }

    /** "NUMBERS, whole, at most 2^53 - 1 in size"; "a NUMBER too great ...: its first byte". */
    private static void checkNumberSize() {
        for (String sign : new String[] {"", "-"}) {
            reads(sign + "9007199254740990", sign + "9007199254740990");
            reads(sign + "9007199254740991", sign + "9007199254740991");
            breaks(sign + "9007199254740992", 0);
            breaks(sign + "9007199254740993", 0);
            breaks("[7, " + sign + "9007199254740992]", 4);
            breaks(sign + "10000000000000000", 0);
            // Sizes that come round to small ones where a long or an int is too short for them.
            breaks(sign + "9223372036854775807", 0);
            breaks(sign + "9223372036854775808", 0);
            breaks(sign + "18446744073709551616", 0);
            breaks(sign + "18446744073709551617", 0);
            breaks(sign + "184467440737095516160", 0);
            breaks(sign + "1" + "0".repeat(4000), 0);
            reads(sign + "2147483648", sign + "2147483648");
            reads(sign + "4294967296", sign + "4294967296");
        }
    }

    /** "NUMBER: [-] 0 or digits that do not begin with 0". */
    private static void checkNumberBeginnings() {
        reads("0", "0");
        reads("1", "1");
        reads("9", "9");
        reads("10", "10");
        reads("-0", "0");
        reads("-1", "-1");
        reads("[-0,-9,-10]", "[0,-9,-10]");
        breaks("00", 1);
        breaks("-00", 2);
        breaks("01", 1);
        breaks("-09", 2);
        breaks("-", 1);
        breaks("[-]", 2);
        breaks("--1", 1);
        breaks("1-", 1);
        for (int b = 0; b < 256; b++) {
            if (b < '0' || b > '9') {
                breaks("-" + (char) b + "1", 1);
            }
        }
    }

    /** "STRING: " characters 32 .. 126 but " and \". */
    private static void checkCharacters() {
        for (int b = 0; b < 256; b++) {
            String json = "\"a" + (char) b + "b\"";
            if (b == '"') {
                breaks(json, 3);
            } else if (b == '\\') {
                reads(json, "\"a\\b\"");
            } else if (b >= 32 && b <= 126) {
                reads(json, json);
            } else {
                breaks(json, 2);
            }
        }
    }

    /** "or \ and one of " \ / b f n r t, or u and four". */
    private static void checkEscapes() {
        String known = "\"\\/bfnrt";
        String[] printed = {"\\\"", "\\\\", "/", "\\b", "\\f", "\\n", "\\r", "\\t"};
        for (int b = 0; b < 256; b++) {
            int found = known.indexOf((char) b);
            if (found >= 0) {
                reads("\"\\" + (char) b + "0041\"", "\"" + printed[found] + "0041\"");
            } else if (b == 'u') {
                reads("\"\\u0041\"", "\"A\"");
            } else {
                breaks("\"\\" + (char) b + "0041\"", 2);
            }
        }
    }

    /** "four of 0 .. 9 a .. f A .. F": each of the four, by every byte. */
    private static void checkHexDigits() {
        for (int b = 0; b < 256; b++) {
            for (int at = 0; at < 4; at++) {
                String four = "0000".substring(0, at) + (char) b + "0000".substring(at + 1);
                String json = "\"\\u" + four + "\"";
                if (DIGITS.indexOf((char) b) < 0) {
                    breaks(json, 3 + at);
                } else if (Integer.parseInt(four, 16) > 127) {
                    breaks(json, 1);
                } else {
                    reads(json, Model.printed(String.valueOf((char) Integer.parseInt(four, 16))));
                }
            }
        }
        breaks("\"\\u000\"", 6);
        breaks("\"\\u000", 6);
        reads("\"\\u00000\"", "\"\\u00000\"");
    }

    /** "below 128"; "\ and u and a number above 7F ...: its first byte". */
    private static void checkHexBelow128() {
        for (int c = 0; c < 128; c++) {
            reads(String.format("\"\\u%04x\"", c), Model.printed(String.valueOf((char) c)));
        }
        for (int c : new int[] {0x80, 0x81, 0xFF, 0x100, 0x17F, 0x1000, 0x7FFF, 0x8000, 0xFF7F, 0xFFFF}) {
            breaks(String.format("\"ab\\u%04X\"", c), 3);
            breaks(String.format("{\"\\u0041\\u%04x\":1}", c), 8);
        }
    }

    /** "blanks (9, 10, 13, 32) between signs": by every byte, in every gap between signs, and within them. */
    private static void checkBlanks() {
        String[] signs = {"{", "\"a\"", ":", "[", "-1", ",", "true", ",", "{", "}", "]", "}"};
        String whole = String.join("", signs);
        for (int b = 0; b < 256; b++) {
            String c = String.valueOf((char) b);
            boolean blank = "\t\n\r ".contains(c);
            if (blank) {
                reads(c + String.join(c, signs) + c, whole);
                breaks("tr" + c + "ue", 2);
                breaks("-" + c + "1", 1);
                breaks("1" + c + "1", 2);
            } else if (!"[]{},:\"-0123456789ntf".contains(c)) {
                int gap = 0;
                for (String sign : signs) {
                    breaks(whole.substring(0, gap) + c + whole.substring(gap), gap);
                    gap += sign.length();
                }
                breaks(whole + c, gap);
            }
        }
    }

    /** A VALUE begins with one of few bytes; every other one can't stand there. */
    private static void checkBeginnings() {
        for (int b = 0; b < 256; b++) {
            if ("[{\"-0123456789ntf \t\r\n".indexOf((char) b) < 0) {
                breaks(String.valueOf((char) b), 0);
                breaks("[1, " + (char) b, 4);
                breaks("{\"a\": " + (char) b, 6);
            }
        }
        breaks("", 0);
        breaks(" ", 1);
    }

    /** "names once"; "a name that was there: its first byte". */
    private static void checkNames() {
        reads("{\"a\":1}", "{\"a\":1}");
        reads("{\"a\":1,\"A\":2,\"aa\":3,\"\":4}", "{\"a\":1,\"A\":2,\"aa\":3,\"\":4}");
        breaks("{\"a\":1,\"A\":2,\"aa\":3,\"\":4,  \"a\":5}", 27);
        breaks("{\"a\":1,\"A\":2,\"aa\":3,\"\":4,\"\":5}", 25);
        breaks("{\"a\":1,\"A\":2,\"aa\":3,\"\\u0041\":5}", 20);
        breaks("{\"a\":{\"b\":1},\"b\":{\"b\":1,\"b\":2}}", 24);
        reads("{\"a\":{\"b\":1},\"b\":{\"a\":1}}", "{\"a\":{\"b\":1},\"b\":{\"a\":1}}");
        // A name that has not come to its end yet can't be one that was there.
        breaks("{\"a\":1,\"a", 9);
        breaks("{\"a\":1,\"a\n\":2}", 9);
        // Of two faults the first that is read is told: the name is, before what is behind it.
        breaks("{\"a\":1,\"a\" x}", 7);
        breaks("{\"a\":1,\"a\":9007199254740992}", 7);
    }

    /** "at most 40 [ and { within one another". */
    private static void checkNesting() {
        for (int arrays = 38; arrays <= 42; arrays++) {
            nests("[".repeat(arrays) + "]".repeat(arrays), arrays, 40);
            nests("[".repeat(arrays) + "7" + "]".repeat(arrays), arrays, 40);
            nests("{\"a\":".repeat(arrays - 1) + "{}" + "}".repeat(arrays - 1), arrays, 200);
            nests("[{\"a\":".repeat(arrays / 2) + (arrays % 2 == 0 ? "7" : "[]") + "}]".repeat(arrays / 2), arrays, 120);
            nests("[[[]],1," + "[".repeat(arrays - 1) + "]".repeat(arrays - 1) + "]", arrays, 47);
        }
        // One that has been closed is not within the next.
        String wide = "[" + Bench.times(400, "[],{}", ",") + "]";
        reads(wide, wide);
        // In a STRING they are no such signs.
        reads("\"" + "[{".repeat(100) + "\"", "\"" + "[{".repeat(100) + "\"");
    }

    private static void nests(String json, int depth, int placeOf41st) {
        if (depth <= 40) {
            reads(json, json);
        } else {
            breaks(json, placeOf41st);
        }
    }

    /** "of the first byte that can't stand there, the length at the end": every beginning is too short. */
    private static void checkTooShort() {
        reads(EVERY_SIGN, EVERY_SIGN.replace("\\u0041\\/", "A/"));
        for (int length = 0; length < EVERY_SIGN.length(); length++) {
            breaks(EVERY_SIGN.substring(0, length), length);
        }
        for (String literal : new String[] {"null", "true", "false", "\"\"", "[]", "{}", "-1"}) {
            for (int length = 0; length < literal.length(); length++) {
                breaks(literal.substring(0, length), length);
                breaks("[" + literal.substring(0, length), length + 1);
            }
            breaks(literal + "]", literal.length());
        }
    }

    /** "of the first byte that can't stand there": a byte that can't stand anywhere, at every place. */
    private static void checkWrongByte() {
        for (int at = 0; at <= EVERY_SIGN.length(); at++) {
            for (String wrong : new String[] {"\u0001", "\u007f", "\u0080", "\u00ff"}) {
                breaks(EVERY_SIGN.substring(0, at) + wrong, at);
                breaks(EVERY_SIGN.substring(0, at) + wrong + EVERY_SIGN.substring(at), at);
            }
        }
    }

    /** "THE TAPE and THE RESULT have at most 4096 bytes": read takes all of them. */
    private static void checkTapeLength() {
        for (int length : new int[] {4094, 4095, 4096}) {
            String text = "\"" + "x".repeat(length - 2) + "\"";
            reads(text, text);
            reads(" ".repeat(length - 1) + "7", "7");
            breaks(" ".repeat(length), length);
            breaks("\"" + "x".repeat(length - 1), length);
            breaks(" ".repeat(length - 1) + "x", length - 1);
            breaks("[" + " ".repeat(length - 1), length);
        }
    }
}
