import java.util.ArrayList;
import java.util.LinkedHashMap;
import java.util.List;
import java.util.Map;

/** JSON read into the trees of Model, byte by byte, with the PLACE where it is broken. */
final class ModelReader {
    static final class Broken extends Exception {
        private static final long serialVersionUID = 1L;
        final int place;

        Broken(int place) {
            this.place = place;
        }
    }

    private final String tape;
    private int here = 0;

    private ModelReader(String tape) {
        this.tape = tape;
    }

    static Object read(String tape) throws Broken {
        ModelReader reader = new ModelReader(tape);
        Object value = reader.value(1);
        reader.blanks();
        if (reader.here < tape.length()) {
            throw new Broken(reader.here);
        }
        return value;
    }

    private char peek() {
        return here < tape.length() ? tape.charAt(here) : '\uffff';
    }

    private void blanks() {
        while ("\t\n\r ".indexOf(peek()) >= 0) {
            here++;
        }
    }

    private void expect(String text) throws Broken {
        for (char c : text.toCharArray()) {
            if (peek() != c) {
                throw new Broken(here);
            }
            here++;
        }
    }

    private Object value(int depth) throws Broken {
        blanks();
        switch (peek()) {
            case 'n':
                expect("null");
                return null;
            case 't':
                expect("true");
                return true;
            case 'f':
                expect("false");
                return false;
            case '"':
                return string();
            case '[':
                return array(depth);
            case '{':
                return object(depth);
            default:
                return number();
        }
    }

    private Long number() throws Broken {
        int start = here;
        if (peek() == '-') {
            here++;
        }
        int first = here;
        while (peek() >= '0' && peek() <= '9' && !(here > first && tape.charAt(first) == '0')) {
            here++;
        }
        if (here == first) {
            throw new Broken(here);
        }
        java.math.BigInteger number = new java.math.BigInteger(tape.substring(start, here));
        if (number.abs().bitLength() > 53) {
            throw new Broken(start);
        }
        return number.longValue();
    }

    private String string() throws Broken {
        expect("\"");
        StringBuilder text = new StringBuilder();
        while (peek() != '"') {
            int start = here;
            if (peek() < 32 || peek() > 126) {
                throw new Broken(here);
            }
            here++;
            text.append(tape.charAt(start) == '\\' ? escaped(start) : tape.charAt(start));
        }
        here++;
        return text.toString();
    }

    private char escaped(int start) throws Broken {
        int known = "\"\\/bfnrt".indexOf(peek());
        if (known >= 0) {
            here++;
            return "\"\\/\b\f\n\r\t".charAt(known);
        }
        expect("u");
        for (int n = 0; n < 4; n++) {
            if ("0123456789abcdefABCDEF".indexOf(peek()) < 0) {
                throw new Broken(here);
            }
            here++;
        }
        int c = Integer.parseInt(tape.substring(here - 4, here), 16);
        if (c > 127) {
            throw new Broken(start);
        }
        return (char) c;
    }

    private List<Object> array(int depth) throws Broken {
        open(depth);
        List<Object> elements = new ArrayList<>();
        if (peek() != ']') {
            elements.add(value(depth + 1));
            blanks();
            while (peek() == ',') {
                here++;
                elements.add(value(depth + 1));
                blanks();
            }
        }
        expect("]");
        return elements;
    }

    private Map<Object, Object> object(int depth) throws Broken {
        open(depth);
        Map<Object, Object> members = new LinkedHashMap<>();
        if (peek() != '}') {
            member(members, depth);
            while (peek() == ',') {
                here++;
                blanks();
                member(members, depth);
            }
        }
        expect("}");
        return members;
    }

    private void open(int depth) throws Broken {
        if (depth > 40) {
            throw new Broken(here);
        }
        here++;
        blanks();
    }

    private void member(Map<Object, Object> members, int depth) throws Broken {
        int start = here;
        String name = string();
        if (members.containsKey(name)) {
            throw new Broken(start);
        }
        blanks();
        expect(":");
        members.put(name, value(depth + 1));
        blanks();
    }
}
