import java.util.ArrayList;
import java.util.LinkedHashMap;
import java.util.List;
import java.util.Map;
import java.util.TreeMap;

/**
 * The document's PATHS once more, over trees and by other means than the class goes by: null,
 * Boolean, Long, String, List and Map (in the order in which names came). What is REFUSED, or
 * beyond a LIMIT, is a Refusal whose text is the outcome that Bench tells.
 */
final class Model {
    static final class Refusal extends Exception {
        private static final long serialVersionUID = 1L;

        Refusal(String outcome) {
            super(outcome);
        }
    }

    private Model() {
    }

    static Object get(Object a, Object path) throws Refusal {
        Object value = a;
        for (Object step : list(path)) {
            if (value == null) {
                return null;
            }
            value = child(value, step);
        }
        return value;
    }

    static Object set(Object a, Object path, Object v) throws Refusal {
        List<?> steps = list(path);
        if (steps.size() > 100) {
            throw new Refusal(Bench.RANGE);
        }
        return within(put(a, steps, v));
    }

    static Object del(Object a, Object paths) throws Refusal {
        int total = 0;
        boolean tooLong = false;
        for (Object path : list(paths)) {
            int steps = list(path).size();
            total += steps;
            tooLong |= steps > 100;
        }
        if (tooLong) {
            throw new Refusal(Bench.RANGE);
        }
        List<Object> sorted = new ArrayList<>(list(paths));
        if (sorted.size() > 100 || total > 100) {
            throw new Refusal(Bench.LIMIT);
        }
        sorted.sort(Model::compare);
        Object value = a;
        for (int n = sorted.size() - 1; n >= 0; n--) {
            value = cut(value, list(sorted.get(n)));
        }
        return within(value);
    }

    static Object all(Object a) throws Refusal {
        List<Object> paths = new ArrayList<>();
        collect(a, new ArrayList<>(), paths);
        return within(paths);
    }

    private static void collect(Object value, List<Object> here, List<Object> paths) {
        paths.add(new ArrayList<>(here));
        if (value instanceof List<?> elements) {
            for (int n = 0; n < elements.size(); n++) {
                collectStep(elements.get(n), here, (long) n, paths);
            }
        } else if (value instanceof Map<?, ?> members) {
            for (Map.Entry<?, ?> member : members.entrySet()) {
                collectStep(member.getValue(), here, member.getKey(), paths);
            }
        }
    }

    private static void collectStep(Object value, List<Object> here, Object step, List<Object> paths) {
        here.add(step);
        collect(value, here, paths);
        here.remove(here.size() - 1);
    }

    private static Object put(Object a, List<?> steps, Object v) throws Refusal {
        if (steps.isEmpty()) {
            return v;
        }
        Object step = steps.get(0);
        List<?> rest = steps.subList(1, steps.size());
        if (step instanceof String name && (a == null || a instanceof Map)) {
            Map<Object, Object> members = a == null ? new LinkedHashMap<>() : new LinkedHashMap<>((Map<?, ?>) a);
            members.put(name, put(members.get(name), rest, v));
            return members;
        }
        if (step instanceof Long n && (a == null || a instanceof List)) {
            List<Object> elements = a == null ? new ArrayList<>() : new ArrayList<>((List<?>) a);
            long place = n < 0 ? n + elements.size() : n;
            if (place < 0 || place > 1000) {
                throw new Refusal(Bench.RANGE);
            }
            Object made = put(place < elements.size() ? elements.get((int) place) : null, rest, v);
            while (elements.size() <= place) {
                elements.add(null);
            }
            elements.set((int) place, made);
            return elements;
        }
        if (step instanceof Map<?, ?> bounds && (a == null || a instanceof List)) {
            List<Object> elements = a == null ? new ArrayList<>() : new ArrayList<>((List<?>) a);
            int[] part = part(bounds, elements.size());
            boolean nameBehind = !rest.isEmpty() && rest.get(0) instanceof String;
            // What is behind such a name is told first, so it is looked at as from null.
            Object old = a == null || nameBehind ? null : new ArrayList<>(elements.subList(part[0], part[1]));
            List<?> made = list(put(old, rest, v));
            elements.subList(part[0], part[1]).clear();
            elements.addAll(part[0], made);
            return elements;
        }
        throw new Refusal(Bench.TYPE);
    }

    private static Object cut(Object a, List<?> steps) throws Refusal {
        if (steps.isEmpty() || a == null) {
            return null;
        }
        Object step = steps.get(0);
        if (steps.size() == 1) {
            return cutStep(a, step);
        }
        Object old = child(a, step);
        if (old == null) {
            return a;
        }
        Object left = cut(old, steps.subList(1, steps.size()));
        if (a instanceof String) {
            throw new Refusal(Bench.TYPE);
        }
        return put(a, List.of(step instanceof Long n && n < 0 ? (Object) (n + list(a).size()) : step), left);
    }

    private static Object cutStep(Object a, Object step) throws Refusal {
        if (a instanceof Map<?, ?> members && step instanceof String) {
            Map<Object, Object> left = new LinkedHashMap<>(members);
            left.remove(step);
            return left;
        }
        if (a instanceof List<?> elements && step instanceof Long n) {
            List<Object> left = new ArrayList<>(elements);
            long place = n < 0 ? n + left.size() : n;
            if (place >= 0 && place < left.size()) {
                left.remove((int) place);
            }
            return left;
        }
        if (a instanceof List<?> elements && step instanceof Map<?, ?> bounds) {
            List<Object> left = new ArrayList<>(elements);
            int[] part = part(bounds, left.size());
            left.subList(part[0], part[1]).clear();
            return left;
        }
        throw new Refusal(Bench.TYPE);
    }

    private static Object child(Object a, Object step) throws Refusal {
        if (a instanceof Map<?, ?> members && step instanceof String) {
            return members.get(step);
        }
        if (a instanceof List<?> elements && step instanceof Long n) {
            long place = n < 0 ? n + elements.size() : n;
            return place >= 0 && place < elements.size() ? elements.get((int) place) : null;
        }
        if (a instanceof List<?> elements && step instanceof Map<?, ?> bounds) {
            int[] part = part(bounds, elements.size());
            return new ArrayList<>(elements.subList(part[0], part[1]));
        }
        if (a instanceof String text && step instanceof Map<?, ?> bounds) {
            int[] part = part(bounds, text.length());
            return text.substring(part[0], part[1]);
        }
        throw new Refusal(Bench.TYPE);
    }

    private static int[] part(Map<?, ?> bounds, int size) throws Refusal {
        int start = bound(bounds.get("start"), size, 0);
        int end = bound(bounds.get("end"), size, size);
        return new int[] {start, Math.max(start, end)};
    }

    private static int bound(Object bound, int size, int otherwise) throws Refusal {
        if (bound == null) {
            return otherwise;
        }
        if (bound instanceof Long n) {
            return (int) Math.max(0, Math.min(size, n < 0 ? n + size : n));
        }
        throw new Refusal(Bench.TYPE);
    }

    private static List<?> list(Object value) throws Refusal {
        if (value instanceof List<?> elements) {
            return elements;
        }
        throw new Refusal(Bench.TYPE);
    }

    private static Object within(Object value) throws Refusal {
        if (depth(value) > 60 || weight(value) > 60000 || printed(value).length() > 4096) {
            throw new Refusal(Bench.LIMIT);
        }
        return value;
    }

    private static int depth(Object value) {
        int deepest = 0;
        if (value instanceof List<?> elements) {
            for (Object element : elements) {
                deepest = Math.max(deepest, depth(element));
            }
            return deepest + 1;
        }
        if (value instanceof Map<?, ?> members) {
            return depth(new ArrayList<>(members.values()));
        }
        return 0;
    }

    private static int weight(Object value) {
        int weight = 1;
        if (value instanceof String text) {
            weight += text.length();
        } else if (value instanceof List<?> elements) {
            for (Object element : elements) {
                weight += weight(element);
            }
        } else if (value instanceof Map<?, ?> members) {
            for (Map.Entry<?, ?> member : members.entrySet()) {
                weight += weight(member.getKey()) + weight(member.getValue());
            }
        }
        return weight;
    }

    /** ORDER. */
    static int compare(Object a, Object b) {
        if (rank(a) != rank(b)) {
            return Integer.compare(rank(a), rank(b));
        }
        if (a instanceof Long n) {
            return n.compareTo((Long) b);
        }
        if (a instanceof String text) {
            return text.compareTo((String) b);
        }
        if (a instanceof List<?> elements) {
            return compareLists(elements, (List<?>) b);
        }
        if (a instanceof Map<?, ?> members) {
            Map<Object, Object> one = new TreeMap<>(members);
            Map<Object, Object> other = new TreeMap<>((Map<?, ?>) b);
            int names = compareLists(new ArrayList<>(one.keySet()), new ArrayList<>(other.keySet()));
            return names != 0 ? names : compareLists(new ArrayList<>(one.values()), new ArrayList<>(other.values()));
        }
        return 0;
    }

    private static int compareLists(List<?> a, List<?> b) {
        for (int n = 0; n < Math.min(a.size(), b.size()); n++) {
            int found = compare(a.get(n), b.get(n));
            if (found != 0) {
                return found;
            }
        }
        return Integer.compare(a.size(), b.size());
    }

    private static int rank(Object value) {
        if (value == null) {
            return 0;
        }
        if (value instanceof Boolean known) {
            return known ? 2 : 1;
        }
        return value instanceof Long ? 3 : value instanceof String ? 4 : value instanceof List ? 5 : 6;
    }

    static String printed(Object value) {
        if (value instanceof String text) {
            return quoted(text);
        }
        StringBuilder out = new StringBuilder();
        if (value instanceof List<?> elements) {
            for (Object element : elements) {
                out.append(out.length() == 0 ? "" : ",").append(printed(element));
            }
            return "[" + out + "]";
        }
        if (value instanceof Map<?, ?> members) {
            for (Map.Entry<?, ?> member : members.entrySet()) {
                out.append(out.length() == 0 ? "" : ",").append(printed(member.getKey())).append(':').append(printed(member.getValue()));
            }
            return "{" + out + "}";
        }
        return String.valueOf(value);
    }

    private static String quoted(String text) {
        StringBuilder out = new StringBuilder("\"");
        for (char c : text.toCharArray()) {
            int known = "\b\t\n\f\r\"\\".indexOf(c);
            if (known >= 0) {
                out.append('\\').append("btnfr\"\\".charAt(known));
            } else if (c < 32 || c == 127) {
                out.append(String.format("\\u%04x", (int) c));
            } else {
                out.append(c);
            }
        }
        return out.append('"').toString();
    }
}
