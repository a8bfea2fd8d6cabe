import java.util.ArrayList;
import java.util.Arrays;
import java.util.Collection;
import java.util.LinkedHashMap;
import java.util.List;
import java.util.Map;

/** What the model does with values: measures, writing, operations and queries. No value is ever changed. */
final class ModelValues {
    private ModelValues() {
    }

    static Collection<Object> parts(Object value) {
        if (Model.list(value) != null) {
            return Model.list(value);
        }
        return Model.map(value) == null ? List.of() : Model.map(value).values();
    }

    static int size(Object value) {
        return 1 + parts(value).stream().mapToInt(ModelValues::size).sum();
    }

    static int depth(Object value) {
        if (Model.list(value) == null && Model.map(value) == null) {
            return 0;
        }
        return 1 + parts(value).stream().mapToInt(ModelValues::depth).max().orElse(0);
    }

    static String written(Object value) {
        if (value == Model.NULL) {
            return "null";
        }
        if (value instanceof String s) {
            return '"' + s.replace("\\", "\\\\").replace("\"", "\\\"") + '"';
        }
        List<String> all = new ArrayList<>();
        if (Model.list(value) != null) {
            for (Object part : Model.list(value)) {
                all.add(written(part));
            }
            return "[" + String.join(",", all) + "]";
        }
        if (Model.map(value) != null) {
            for (Map.Entry<String, Object> member : Model.map(value).entrySet()) {
                all.add(written(member.getKey()) + ":" + written(member.getValue()));
            }
            return "{" + String.join(",", all) + "}";
        }
        return value.toString();
    }

    static Object patched(Object document, Object list) throws Model.Answer {
        if (Model.list(list) == null) {
            throw new Model.Answer(-3);
        }
        for (Object operation : Model.list(list)) {
            if (!wellFormed(Model.map(operation))) {
                throw new Model.Answer(-3);
            }
        }
        int i = 0;
        for (Object operation : Model.list(list)) {
            document = done(document, Model.map(operation));
            if (document == null) {
                throw new Model.Answer(-10 - i);
            }
            if (size(document) > 24 || depth(document) > 4) {
                throw new Model.Answer(-5);
            }
            i++;
        }
        return document;
    }

    private static boolean wellFormed(Map<String, Object> operation) {
        if (operation == null || !(operation.get("path") instanceof String) || !(operation.get("op") instanceof String op)) {
            return false;
        }
        return switch (op) {
            case "add", "replace" -> operation.containsKey("value");
            case "copy" -> operation.get("from") instanceof String;
            case "remove" -> true;
            default -> false;
        };
    }

    /** The document then; null if the operation fails. */
    private static Object done(Object document, Map<String, Object> operation) {
        List<String> path = tokens((String) operation.get("path"));
        if (path == null) {
            return null;
        }
        switch ((String) operation.get("op")) {
            case "add":
                return added(document, path, operation.get("value"));
            case "replace":
                return at(document, path) == null ? null : changed(document, path, operation.get("value"));
            case "remove":
                return path.isEmpty() || at(document, path) == null ? null : changed(document, path, null);
            default:
                List<String> from = tokens((String) operation.get("from"));
                Object source = from == null ? null : at(document, from);
                return source == null ? null : added(document, path, source);
        }
    }

    private static List<String> tokens(String path) {
        if (!path.matches("(?s)(/([^~/]|~0|~1)*)*")) {
            return null;
        }
        List<String> all = new ArrayList<>();
        for (String token : path.split("/", -1)) {
            all.add(token.replace("~1", "/").replace("~0", "~"));
        }
        return all.subList(1, all.size()).isEmpty() ? List.of() : all.subList(1, all.size());
    }

    private static Object step(Object from, String token) {
        if (Model.map(from) != null) {
            return Model.map(from).get(token);
        }
        List<Object> list = Model.list(from);
        if (list == null || !token.matches("0|[1-9][0-9]*") || Long.parseLong(token) >= list.size()) {
            return null;
        }
        return list.get(Integer.parseInt(token));
    }

    private static Object at(Object document, List<String> path) {
        for (String token : path) {
            document = document == null ? null : step(document, token);
        }
        return document;
    }

    private static Object added(Object document, List<String> path, Object value) {
        if (path.isEmpty()) {
            return value;
        }
        List<String> above = path.subList(0, path.size() - 1);
        String last = path.get(path.size() - 1);
        Object parent = at(document, above);
        if (Model.map(parent) != null) {
            LinkedHashMap<String, Object> map = new LinkedHashMap<>(Model.map(parent));
            map.put(last, value);
            return changed(document, above, map);
        }
        if (Model.list(parent) == null || !last.matches("-|0|[1-9][0-9]*")) {
            return null;
        }
        List<Object> list = new ArrayList<>(Model.list(parent));
        long n = last.equals("-") ? list.size() : Long.parseLong(last);
        if (n > list.size()) {
            return null;
        }
        list.add((int) n, value);
        return changed(document, above, list);
    }

    /** The document with the value where the path leads; null takes away what is there. */
    private static Object changed(Object document, List<String> path, Object value) {
        if (path.isEmpty()) {
            return value;
        }
        String token = path.get(0);
        Object part = changed(step(document, token), path.subList(1, path.size()), value);
        if (Model.map(document) != null) {
            LinkedHashMap<String, Object> map = new LinkedHashMap<>(Model.map(document));
            if (part == null) {
                map.remove(token);
            } else {
                map.put(token, part);
            }
            return map;
        }
        List<Object> list = new ArrayList<>(Model.list(document));
        int n = Integer.parseInt(token);
        if (part == null) {
            list.remove(n);
        } else {
            list.set(n, part);
        }
        return list;
    }

    static List<Object> select(Object document, List<ModelText.Segment> segments) throws Model.Answer {
        List<Object> row = Arrays.asList(document);
        for (ModelText.Segment segment : segments) {
            List<Object> next = new ArrayList<>();
            for (Object node : row) {
                for (Object visited : segment.deep ? below(node) : List.of(node)) {
                    for (Object selector : segment.selectors) {
                        next.addAll(chosen(visited, selector));
                    }
                }
            }
            if (next.size() > 32) {
                throw new Model.Answer(-6);
            }
            row = next;
        }
        return row;
    }

    private static List<Object> below(Object node) {
        List<Object> all = new ArrayList<>();
        all.add(node);
        for (Object part : parts(node)) {
            all.addAll(below(part));
        }
        return all;
    }

    private static Collection<Object> chosen(Object node, Object selector) {
        if (selector == ModelText.EVERY) {
            return parts(node);
        }
        if (selector instanceof String name) {
            return Model.map(node) != null && Model.map(node).containsKey(name) ? List.of(Model.map(node).get(name)) : List.of();
        }
        List<Object> list = Model.list(node);
        int n = (Integer) selector;
        if (list == null || n >= list.size() || n < -list.size()) {
            return List.of();
        }
        return List.of(list.get(n < 0 ? list.size() + n : n));
    }
}
