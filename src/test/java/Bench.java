import java.nio.charset.StandardCharsets;

/** A StepBench with texts instead of bytes in ints, and outcomes told as words. */
final class Bench {
    static final String FINE = "fine";
    static final String ARGUMENT = "argument";
    static final String TYPE = "type";
    static final String RANGE = "range";
    static final String LIMIT = "limit";

    final StepBench x = new StepBench();
    private int fed = 0;

    /** Brings a text onto the TAPE; a piece of less than 20 bytes comes first, so 4096 fit. */
    Bench tape(String text) {
        byte[] bytes = text.getBytes(StandardCharsets.ISO_8859_1);
        int before = x.count(0);
        int first = bytes.length % 20;
        if (first > 0) {
            feed(bytes, 0);
            x.end(before + first);
        }
        for (int i = first; i < bytes.length; i += 20) {
            feed(bytes, i);
        }
        return this;
    }

    private void feed(byte[] bytes, int i) {
        fed++;
        // Behind 512 calls every answer is free: a test that goes there tests nothing.
        if (fed > 480) {
            throw new IllegalStateException("one object is fed too often");
        }
        x.feed(number(bytes, i), number(bytes, i + 4), number(bytes, i + 8), number(bytes, i + 12), number(bytes, i + 16));
    }

    private static int number(byte[] bytes, int from) {
        int n = 0;
        for (int i = from; i < from + 4; i++) {
            n = n << 8 | (i < bytes.length ? bytes[i] & 0xFF : 'x');
        }
        return n;
    }

    /** REGISTER r becomes the VALUE that the text tells. */
    Bench put(int r, String json) {
        tape(json);
        x.read(r);
        return this;
    }

    /** REGISTER r PRINTED. THE RESULT is changed by this. */
    String text(int r) {
        x.print(r);
        return result();
    }

    String result() {
        int length = x.count(1);
        StringBuilder text = new StringBuilder();
        for (int i = 0; i < length; i += 8) {
            long word = x.word(i);
            for (int k = 56; k >= 0; k -= 8) {
                text.append((char) (word >>> k & 0xFF));
            }
        }
        text.setLength(length);
        return text.toString();
    }

    /** What read does with the TAPE: how many bytes, or where it is broken. */
    String read(int r) {
        try {
            return String.valueOf(x.read(r));
        } catch (IllegalArgumentException e) {
            return thrown(e, IllegalArgumentException.class, ARGUMENT);
        } catch (UnsupportedOperationException e) {
            return "broken at " + x.count(2);
        } catch (IndexOutOfBoundsException e) {
            return thrown(e, IndexOutOfBoundsException.class, LIMIT);
        }
    }

    String get(int to, int a, int p) {
        try {
            x.get(to, a, p);
            return FINE;
        } catch (IllegalArgumentException e) {
            return thrown(e, IllegalArgumentException.class, ARGUMENT);
        } catch (ArithmeticException e) {
            return reason();
        } catch (IndexOutOfBoundsException e) {
            return thrown(e, IndexOutOfBoundsException.class, LIMIT);
        }
    }

    String set(int to, int a, int p, int v) {
        try {
            x.set(to, a, p, v);
            return FINE;
        } catch (IllegalArgumentException e) {
            return thrown(e, IllegalArgumentException.class, ARGUMENT);
        } catch (ArithmeticException e) {
            return reason();
        } catch (IndexOutOfBoundsException e) {
            return thrown(e, IndexOutOfBoundsException.class, LIMIT);
        }
    }

    String del(int to, int a, int ps) {
        try {
            x.del(to, a, ps);
            return FINE;
        } catch (IllegalArgumentException e) {
            return thrown(e, IllegalArgumentException.class, ARGUMENT);
        } catch (ArithmeticException e) {
            return reason();
        } catch (IndexOutOfBoundsException e) {
            return thrown(e, IndexOutOfBoundsException.class, LIMIT);
        }
    }

    String all(int to, int a) {
        try {
            x.all(to, a);
            return FINE;
        } catch (IllegalArgumentException e) {
            return thrown(e, IllegalArgumentException.class, ARGUMENT);
        } catch (IndexOutOfBoundsException e) {
            return thrown(e, IndexOutOfBoundsException.class, LIMIT);
        }
    }

    String same(int a, int b) {
        try {
            return String.valueOf(x.same(a, b));
        } catch (IllegalArgumentException e) {
            return thrown(e, IllegalArgumentException.class, ARGUMENT);
        }
    }

    String print(int r) {
        try {
            return String.valueOf(x.print(r));
        } catch (IllegalArgumentException e) {
            return thrown(e, IllegalArgumentException.class, ARGUMENT);
        }
    }

    String end(int n) {
        try {
            return String.valueOf(x.end(n));
        } catch (IllegalArgumentException e) {
            return thrown(e, IllegalArgumentException.class, ARGUMENT);
        }
    }

    String feed(int a, int b, int c, int d, int e) {
        try {
            return String.valueOf(x.feed(a, b, c, d, e));
        } catch (IndexOutOfBoundsException exception) {
            return thrown(exception, IndexOutOfBoundsException.class, LIMIT);
        }
    }

    String word(int i) {
        try {
            return String.valueOf(x.word(i));
        } catch (IndexOutOfBoundsException e) {
            return thrown(e, IndexOutOfBoundsException.class, LIMIT);
        }
    }

    String count(int what) {
        try {
            return String.valueOf(x.count(what));
        } catch (IllegalArgumentException e) {
            return thrown(e, IllegalArgumentException.class, ARGUMENT);
        }
    }

    /** A row that is left by an index throws a class of its own, which must not pass for a LIMIT. */
    private static String thrown(RuntimeException e, Class<?> due, String outcome) {
        return e.getClass() == due ? outcome : "threw " + e;
    }

    private String reason() {
        switch (x.count(3)) {
            case 1:
                return TYPE;
            case 2:
                return RANGE;
            default:
                return "refused for reason " + x.count(3);
        }
    }

    /** What get leads to, PRINTED, or what it throws, on a new object. */
    static String gotten(String a, String p) {
        Bench bench = new Bench().put(1, a).put(2, p);
        String outcome = bench.get(0, 1, 2);
        return outcome.equals(FINE) ? bench.text(0) : outcome;
    }

    /** What set makes, PRINTED, or what it throws, on a new object. */
    static String made(String a, String p, String v) {
        Bench bench = new Bench().put(1, a).put(2, p).put(3, v);
        String outcome = bench.set(0, 1, 2, 3);
        return outcome.equals(FINE) ? bench.text(0) : outcome;
    }

    /** What del leaves, PRINTED, or what it throws, on a new object. */
    static String left(String a, String ps) {
        Bench bench = new Bench().put(1, a).put(2, ps);
        String outcome = bench.del(0, 1, 2);
        return outcome.equals(FINE) ? bench.text(0) : outcome;
    }

    /** So many times the same text, with another between. */
    static String times(int n, String text, String between) {
        StringBuilder all = new StringBuilder();
        for (int k = 0; k < n; k++) {
            all.append(k == 0 ? "" : between).append(text);
        }
        return all.toString();
    }
}
