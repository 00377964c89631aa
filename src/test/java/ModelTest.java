import java.util.ArrayList;
import java.util.LinkedHashMap;
import java.util.List;
import java.util.Map;
import java.util.Random;

/**
 * Promises 4 to 10 and 13 against the model, for VALUES and PATHS by the thousand. The seed is
 * written here, so each run makes the same ones.
 */
public final class ModelTest {
    private static final String[] NAMES = {"a", "b", "", "start", "end", "\n", "\"", "\\", "ab", "\u007f"};
    private static final Random RANDOM = new Random(20261115);

    public static void main(String[] args) {
        for (int n = 0; n < 15000; n++) {
            Bench bench = new Bench();
            Object a = shortValue();
            bench.put(0, spaced(a));
            // What one call leaves behind must not be seen by the next.
            for (int round = 0; round < 3; round++) {
                checkGet(bench, a);
                checkSet(bench, a);
                checkDel(bench, a);
                checkOthers(bench, a);
            }
            Check.equal("a stays", Model.printed(a), bench.text(0));
        }
        Check.finish();
    }

    /** A VALUE short enough for all calls with it to be fewer than 512. */
    private static Object shortValue() {
        Object value = value(4);
        while (Model.printed(value).length() > 300) {
            value = value(4);
        }
        return value;
    }

    private static void checkGet(Bench bench, Object a) {
        Object path = path(a);
        bench.put(1, spaced(path));
        String due;
        try {
            due = Model.printed(Model.get(a, path));
        } catch (Model.Refusal e) {
            due = e.getMessage();
        }
        String outcome = bench.get(2, 0, 1);
        Check.equal("get " + Model.printed(path) + " of " + Model.printed(a), due, outcome.equals(Bench.FINE) ? bench.text(2) : outcome);
    }

    private static void checkSet(Bench bench, Object a) {
        Object path = path(a);
        Object v = RANDOM.nextInt(2) == 0 ? list(2) : value(2);
        bench.put(1, spaced(path)).put(3, spaced(v));
        String due;
        try {
            due = Model.printed(Model.set(a, path, v));
        } catch (Model.Refusal e) {
            due = e.getMessage();
        }
        String outcome = bench.set(2, 0, 1, 3);
        Check.equal("set " + Model.printed(path) + " of " + Model.printed(a) + " to " + Model.printed(v), due,
                outcome.equals(Bench.FINE) ? bench.text(2) : outcome);
    }

    private static void checkDel(Bench bench, Object a) {
        List<Object> paths = new ArrayList<>();
        int many = RANDOM.nextInt(RANDOM.nextInt(40) == 0 ? 110 : 5);
        for (int n = 0; n < many; n++) {
            paths.add(many > 20 ? RANDOM.nextInt(4) == 0 ? path(a) : new ArrayList<>() : path(a));
        }
        bench.put(1, spaced(paths));
        String due;
        try {
            due = Model.printed(Model.del(a, paths));
        } catch (Model.Refusal e) {
            due = e.getMessage();
        }
        String outcome = bench.del(2, 0, 1);
        Check.equal("del " + Model.printed(paths) + " of " + Model.printed(a), due, outcome.equals(Bench.FINE) ? bench.text(2) : outcome);
    }

    private static void checkOthers(Bench bench, Object a) {
        String due;
        try {
            due = Model.printed(Model.all(a));
        } catch (Model.Refusal e) {
            due = e.getMessage();
        }
        String outcome = bench.all(2, 0);
        Check.equal("all of " + Model.printed(a), due, outcome.equals(Bench.FINE) ? bench.text(2) : outcome);
        Object other = RANDOM.nextBoolean() ? turned(a) : shortValue();
        bench.put(3, spaced(other));
        Check.equal("same: " + Model.printed(a) + " and " + Model.printed(other), String.valueOf(Model.compare(a, other) == 0), bench.same(0, 3));
    }

    /** The same VALUE, with names in another order, but for a NUMBER now and then. */
    private static Object turned(Object value) {
        if (value instanceof List<?> elements) {
            List<Object> all = new ArrayList<>();
            for (Object element : elements) {
                all.add(turned(element));
            }
            return all;
        }
        if (value instanceof Map<?, ?> members) {
            List<Object> names = new ArrayList<>(members.keySet());
            java.util.Collections.shuffle(names, RANDOM);
            Map<Object, Object> all = new LinkedHashMap<>();
            for (Object name : names) {
                all.put(name, turned(members.get(name)));
            }
            return all;
        }
        return value instanceof Long n && RANDOM.nextInt(10) == 0 ? (Object) (n / 2) : value;
    }

    private static Object value(int depth) {
        int kind = RANDOM.nextInt(depth > 0 ? 12 : 6);
        switch (kind) {
            case 0:
                return null;
            case 1:
                return RANDOM.nextBoolean();
            case 2:
            case 3:
                return (long) RANDOM.nextInt(20) - 8;
            case 4:
            case 5:
                return text();
            case 6:
            case 7:
            case 8:
                return list(depth);
            default:
                return members(depth);
        }
    }

    private static List<Object> list(int depth) {
        List<Object> elements = new ArrayList<>();
        int size = RANDOM.nextInt(5);
        for (int n = 0; n < size; n++) {
            elements.add(value(depth - 1));
        }
        return elements;
    }

    private static Map<Object, Object> members(int depth) {
        Map<Object, Object> members = new LinkedHashMap<>();
        int size = RANDOM.nextInt(5);
        for (int n = 0; n < size; n++) {
            members.put(name(), value(depth - 1));
        }
        return members;
    }

    private static String name() {
        return NAMES[RANDOM.nextInt(NAMES.length)];
    }

    private static String text() {
        StringBuilder text = new StringBuilder();
        int size = RANDOM.nextInt(6);
        for (int n = 0; n < size; n++) {
            text.append((char) RANDOM.nextInt(128));
        }
        return text.toString();
    }

    /** Mostly a PATH that leads somewhere in the VALUE, with some steps behind that may not. */
    private static Object path(Object a) {
        if (RANDOM.nextInt(60) == 0) {
            return value(2);
        }
        List<Object> steps = new ArrayList<>();
        Object here = a;
        int size = RANDOM.nextInt(6);
        for (int n = 0; n < size; n++) {
            Object step = RANDOM.nextInt(8) == 0 ? strayStep() : stepFrom(here);
            steps.add(step);
            try {
                here = Model.get(here, List.of(step == null ? "" : step));
            } catch (Model.Refusal e) {
                here = null;
            }
        }
        return steps;
    }

    private static Object stepFrom(Object here) {
        if (here instanceof Map<?, ?> members) {
            List<Object> names = new ArrayList<>(members.keySet());
            return names.isEmpty() || RANDOM.nextInt(4) == 0 ? name() : names.get(RANDOM.nextInt(names.size()));
        }
        if (here instanceof List<?> elements) {
            return RANDOM.nextInt(3) == 0 ? part() : (Object) (long) (RANDOM.nextInt(2 * elements.size() + 4) - elements.size() - 1);
        }
        return here instanceof String ? part() : strayStep();
    }

    private static Object strayStep() {
        switch (RANDOM.nextInt(12)) {
            case 0:
                return RANDOM.nextBoolean();
            case 1:
                return list(1);
            case 2:
                return null;
            case 3:
                return 999L + RANDOM.nextInt(4);
            case 4:
            case 5:
            case 6:
                return (long) RANDOM.nextInt(6) - 1;
            case 7:
            case 8:
            case 9:
                return name();
            default:
                return part();
        }
    }

    private static Object part() {
        Map<Object, Object> part = new LinkedHashMap<>();
        for (int n = 0; n < 3; n++) {
            String name = new String[] {"start", "end", "x"}[RANDOM.nextInt(3)];
            part.put(name, bound());
        }
        return part;
    }

    private static Object bound() {
        int kind = RANDOM.nextInt(30);
        return kind == 0 ? value(1) : kind < 5 ? null : (Object) (long) (RANDOM.nextInt(14) - 6);
    }

    /** The VALUE as JSON, with blanks between signs here and there. */
    private static String spaced(Object value) {
        String printed = Model.printed(value);
        if (RANDOM.nextInt(4) > 0) {
            return printed;
        }
        StringBuilder out = new StringBuilder();
        boolean quoted = false;
        for (int i = 0; i < printed.length(); i++) {
            char c = printed.charAt(i);
            boolean sign = !quoted && "[]{},:".indexOf(c) >= 0;
            out.append(sign ? blanks() : "").append(c);
            if (c == '\\') {
                i++;
                out.append(printed.charAt(i));
            }
            quoted = c == '"' ? !quoted : quoted;
            out.append(sign ? blanks() : "");
        }
        return out.toString();
    }

    private static String blanks() {
        return new String[] {"", "", " ", "\t", "\r\n"}[RANDOM.nextInt(5)];
    }
}
