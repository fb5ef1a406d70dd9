import java.util.ArrayList;
import java.util.HashMap;
import java.util.HashSet;
import java.util.List;
import java.util.Map;
import java.util.Set;
import java.util.TreeMap;

/**
 * The document once more, written as near to its words as can be: types with names, a stack of what
 * may come next for the fault, terms that are rewritten step by step. It shares no idea of holding
 * types, terms or runs with the class that it is compared with.
 */
final class Oracle {
    interface Ty { }

    record Top() implements Ty { }

    record Var(String name) implements Ty { }

    record Fun(Ty from, Ty to) implements Ty { }

    record Scheme(String name, Ty bound, Ty body) implements Ty { }

    record Rec(TreeMap<Character, Ty> parts) implements Ty { }

    static final class Tm {
        final char kind;
        final int place;
        final String name;
        final Ty type;
        final List<Tm> parts;
        final Set<String> free = new HashSet<>();
        final boolean isValue;

        Tm(char kind, int place, String name, Ty type, List<Tm> parts) {
            this.kind = kind;
            this.place = place;
            this.name = name;
            this.type = type;
            this.parts = parts;
            for (Tm part : parts) {
                free.addAll(part.free);
            }
            if (kind == 'v') {
                free.add(name);
            }
            if (kind == '\\') {
                free.remove(name);
            }
            boolean all = true;
            for (Tm part : parts) {
                all &= part.isValue;
            }
            isValue = kind == '\\' || kind == '/' || kind == '{' && all;
        }

        Tm with(List<Tm> newParts) {
            return new Tm(kind, place, name, type, newParts);
        }
    }

    static final class Broken extends Exception {
        private static final long serialVersionUID = 1;
        final int place;

        Broken(int place) {
            this.place = place;
        }
    }

    final StringBuilder text = new StringBuilder();
    String page = "";
    final Ty[] slots = new Ty[4];
    Tm term;
    Tm run;
    int made;
    private int fresh;

    boolean type(char c) {
        if (c < 32 || c > 126 || text.length() == 60) {
            return false;
        }
        text.append(c);
        return true;
    }

    // ---- the fault: a stack of what must come next, as names with a depth

    static int faultOf(String text, boolean asType) {
        ArrayList<String> stack = new ArrayList<>();
        stack.add((asType ? "A" : "e") + "1");
        for (int at = 0; at < text.length(); at++) {
            if (stack.isEmpty()) {
                return at;
            }
            String want = stack.remove(stack.size() - 1);
            if (!accept(want, text.charAt(at), stack)) {
                return at;
            }
        }
        return stack.isEmpty() ? -1 : text.length();
    }

    private static void expect(ArrayList<String> stack, String... wants) {
        for (int i = wants.length - 1; i >= 0; i--) {
            stack.add(wants[i]);
        }
    }

    private static boolean accept(String want, char c, ArrayList<String> stack) {
        char w = want.charAt(0);
        int depth = want.length() > 1 && Character.isDigit(want.charAt(want.length() - 1))
            ? Integer.parseInt(want.replaceAll("^[^0-9]*", "")) : 0;
        String type = "A" + (depth + 1);
        String term = "e" + (depth + 1);
        switch (w) {
            case 'A':
                return acceptType(c, depth, type, stack);
            case 'e':
                return acceptTerm(c, depth, type, term, stack);
            case 'N':
                return "PQRS".indexOf(c) >= 0;
            case 'n':
                return "abcd".indexOf(c) >= 0;
            case 'L':
                return "xyz".indexOf(c) >= 0;
            case 'C':
                return c == '0' || c == '1';
            case 'R': // labels of a record type: "R" + first allowed label + state + depth
            case 'r':
                return acceptInRecord(want, c, depth, stack);
            default:
                return w == '\'' && c == want.charAt(1);
        }
    }

    private static boolean acceptType(char c, int depth, String type, ArrayList<String> stack) {
        if ("TPQRS".indexOf(c) >= 0) {
            return true;
        }
        if (c == '[') {
            expect(stack, "RxB" + depth);
            return true;
        }
        if (depth == 24) {
            return false;
        }
        if (c == '(') {
            expect(stack, type, "'>", type, "')");
            return true;
        }
        if (c == '<') {
            expect(stack, "N", "':", type, "'>", type);
            return true;
        }
        return false;
    }

    private static boolean acceptTerm(char c, int depth, String type, String term, ArrayList<String> stack) {
        if ("abcd".indexOf(c) >= 0) {
            return true;
        }
        if (c == '{') {
            expect(stack, "rxB" + depth);
            return true;
        }
        if (depth == 24) {
            return false;
        }
        switch (c) {
            case '\\':
                expect(stack, "n", "':", type, "'.", term);
                return true;
            case '(':
                expect(stack, term, term, "')");
                return true;
            case '/':
                expect(stack, "N", "':", type, "'.", term);
                return true;
            case '@':
                expect(stack, term, type);
                return true;
            case '.':
                expect(stack, "L", term);
                return true;
            case '?':
                expect(stack, "C", term, term);
                return true;
            default:
                return false;
        }
    }

    // State B: just begun; P: a part has been read; K: behind a comma.
    private static boolean acceptInRecord(String want, char c, int depth, ArrayList<String> stack) {
        boolean types = want.charAt(0) == 'R';
        char lowest = want.charAt(1);
        char state = want.charAt(2);
        if (state != 'K' && c == (types ? ']' : '}')) {
            return true;
        }
        if (state == 'P') {
            if (c != ',' || lowest > 'z') {
                return false;
            }
            stack.add(want.substring(0, 2) + "K" + depth);
            return true;
        }
        if (c < lowest || c > 'z' || depth == 24) {
            return false;
        }
        String rest = want.substring(0, 1) + (char) (c + 1) + "P" + depth;
        if (types) {
            expect(stack, "A" + (depth + 1), rest);
        } else {
            expect(stack, "'=", "e" + (depth + 1), rest);
        }
        return true;
    }

    // ---- building, of texts without a fault

    private final class Builder {
        final String text;
        int at;
        boolean closed = true;
        boolean tooLarge;

        Builder(String text) {
            this.text = text;
        }

        Ty outerType(Map<Character, String> open) {
            Ty type = type(open);
            tooLarge |= sizeOf(type) > 16;
            return type;
        }

        Ty type(Map<Character, String> open) {
            char c = text.charAt(at++);
            if (c == 'T') {
                return new Top();
            }
            if (c == '(') {
                Ty from = type(open);
                at++;
                Ty to = type(open);
                at++;
                return new Fun(from, to);
            }
            if (c == '<') {
                char name = text.charAt(at);
                at += 2;
                Ty bound = type(open);
                at++;
                Map<Character, String> inner = new HashMap<>(open);
                inner.put(name, freshName());
                return new Scheme(inner.get(name), bound, type(inner));
            }
            if (c == '[') {
                TreeMap<Character, Ty> parts = new TreeMap<>();
                while (text.charAt(at) != ']') {
                    at += text.charAt(at) == ',' ? 1 : 0;
                    char label = text.charAt(at++);
                    parts.put(label, type(open));
                }
                at++;
                return new Rec(parts);
            }
            closed &= open.containsKey(c);
            return new Var(open.getOrDefault(c, "?"));
        }

        Tm term(Map<Character, String> types, Map<Character, String> names) {
            int place = at;
            char c = text.charAt(at++);
            if (c == '\\') {
                char name = text.charAt(at);
                at += 2;
                Ty type = outerType(types);
                at++;
                Map<Character, String> inner = new HashMap<>(names);
                inner.put(name, freshName());
                return new Tm(c, place, inner.get(name), type, List.of(term(types, inner)));
            }
            if (c == '/') {
                char name = text.charAt(at);
                at += 2;
                Ty type = outerType(types);
                at++;
                Map<Character, String> inner = new HashMap<>(types);
                inner.put(name, freshName());
                return new Tm(c, place, inner.get(name), type, List.of(term(inner, names)));
            }
            if (c == '(') {
                Tm left = term(types, names);
                Tm right = term(types, names);
                at++;
                return new Tm(c, place, "", null, List.of(left, right));
            }
            if (c == '@') {
                Tm whole = term(types, names);
                return new Tm(c, place, "", outerType(types), List.of(whole));
            }
            if (c == '.') {
                String label = text.substring(at, at + 1);
                at++;
                return new Tm(c, place, label, null, List.of(term(types, names)));
            }
            if (c == '?') {
                String which = text.substring(at, at + 1);
                at++;
                Tm left = term(types, names);
                return new Tm(c, place, which, null, List.of(left, term(types, names)));
            }
            if (c == '{') {
                StringBuilder labels = new StringBuilder();
                List<Tm> parts = new ArrayList<>();
                while (text.charAt(at) != '}') {
                    at += text.charAt(at) == ',' ? 1 : 0;
                    labels.append(text.charAt(at));
                    at += 2;
                    parts.add(term(types, names));
                }
                at++;
                return new Tm(c, place, labels.toString(), null, parts);
            }
            closed &= names.containsKey(c);
            return new Tm('v', place, names.getOrDefault(c, "?"), null, List.of());
        }
    }

    String freshName() {
        fresh++;
        return "n" + fresh;
    }

    int readType(int slot) {
        if (slot < 0 || slot > 3) {
            return -2;
        }
        String read = text.toString();
        text.setLength(0);
        int fault = faultOf(read, true);
        if (fault != -1) {
            return fault;
        }
        Builder builder = new Builder(read);
        Ty type = builder.outerType(Map.of());
        if (!builder.closed || builder.tooLarge) {
            return -2;
        }
        slots[slot] = type;
        return -1;
    }

    int readTerm() {
        String read = text.toString();
        text.setLength(0);
        int fault = faultOf(read, false);
        if (fault != -1) {
            return fault;
        }
        Builder builder = new Builder(read);
        Tm built = builder.term(Map.of(), Map.of());
        if (!builder.closed || builder.tooLarge) {
            return -2;
        }
        term = built;
        run = null;
        return -1;
    }

    // ---- types

    static int sizeOf(Ty type) {
        if (type instanceof Fun f) {
            return 1 + sizeOf(f.from()) + sizeOf(f.to());
        }
        if (type instanceof Scheme s) {
            return 1 + sizeOf(s.bound()) + sizeOf(s.body());
        }
        int size = 1;
        if (type instanceof Rec r) {
            for (Ty part : r.parts().values()) {
                size += sizeOf(part);
            }
        }
        return size;
    }

    /** The type with another one for a name; every scheme gets a new name, so none is captured. */
    Ty put(Ty type, String name, Ty other) {
        if (type instanceof Var v) {
            return v.name().equals(name) ? other : v;
        }
        if (type instanceof Fun f) {
            return new Fun(put(f.from(), name, other), put(f.to(), name, other));
        }
        if (type instanceof Scheme s) {
            String newName = freshName();
            Ty body = put(s.body(), s.name(), new Var(newName));
            return new Scheme(newName, put(s.bound(), name, other), put(body, name, other));
        }
        if (type instanceof Rec r) {
            TreeMap<Character, Ty> parts = new TreeMap<>();
            r.parts().forEach((label, part) -> parts.put(label, put(part, name, other)));
            return new Rec(parts);
        }
        return type;
    }

    static boolean sameTypes(Ty left, Ty right, Map<String, String> names) {
        if (left instanceof Top && right instanceof Top) {
            return true;
        }
        if (left instanceof Var l && right instanceof Var r) {
            return names.getOrDefault(l.name(), l.name()).equals(r.name());
        }
        if (left instanceof Fun l && right instanceof Fun r) {
            return sameTypes(l.from(), r.from(), names) && sameTypes(l.to(), r.to(), names);
        }
        if (left instanceof Scheme l && right instanceof Scheme r) {
            Map<String, String> inner = new HashMap<>(names);
            inner.put(l.name(), r.name());
            return sameTypes(l.bound(), r.bound(), names) && sameTypes(l.body(), r.body(), inner);
        }
        if (left instanceof Rec l && right instanceof Rec r) {
            if (!l.parts().keySet().equals(r.parts().keySet())) {
                return false;
            }
            for (Character label : l.parts().keySet()) {
                if (!sameTypes(l.parts().get(label), r.parts().get(label), names)) {
                    return false;
                }
            }
            return true;
        }
        return false;
    }

    private Map<String, Ty> opened(Map<String, Ty> bounds, String name, Ty bound) {
        Map<String, Ty> inner = new HashMap<>(bounds);
        inner.put(name, bound);
        return inner;
    }

    boolean isBelow(Ty low, Ty high, Map<String, Ty> bounds) {
        if (high instanceof Top) {
            return true;
        }
        if (low instanceof Var v) {
            return high instanceof Var w && w.name().equals(v.name())
                || isBelow(bounds.get(v.name()), high, bounds);
        }
        if (low instanceof Fun l && high instanceof Fun h) {
            return isBelow(h.from(), l.from(), bounds) && isBelow(l.to(), h.to(), bounds);
        }
        if (low instanceof Scheme l && high instanceof Scheme h) {
            String name = freshName();
            return sameTypes(l.bound(), h.bound(), Map.of())
                && isBelow(put(l.body(), l.name(), new Var(name)), put(h.body(), h.name(), new Var(name)),
                    opened(bounds, name, l.bound()));
        }
        if (low instanceof Rec l && high instanceof Rec h) {
            for (Character label : h.parts().keySet()) {
                if (!l.parts().containsKey(label)
                    || !isBelow(l.parts().get(label), h.parts().get(label), bounds)) {
                    return false;
                }
            }
            return true;
        }
        return false;
    }

    Ty joinOf(Ty left, Ty right, Map<String, Ty> bounds) {
        if (isBelow(left, right, bounds)) {
            return right;
        }
        if (isBelow(right, left, bounds)) {
            return left;
        }
        if (right instanceof Var v) {
            return joinOf(left, bounds.get(v.name()), bounds);
        }
        if (left instanceof Var v) {
            return joinOf(bounds.get(v.name()), right, bounds);
        }
        if (left instanceof Fun l && right instanceof Fun r) {
            Ty from = meetOf(l.from(), r.from(), bounds);
            return from == null ? new Top() : new Fun(from, joinOf(l.to(), r.to(), bounds));
        }
        if (left instanceof Scheme l && right instanceof Scheme r
            && sameTypes(l.bound(), r.bound(), Map.of())) {
            String name = freshName();
            return new Scheme(name, l.bound(), joinOf(put(l.body(), l.name(), new Var(name)),
                put(r.body(), r.name(), new Var(name)), opened(bounds, name, l.bound())));
        }
        if (left instanceof Rec l && right instanceof Rec r) {
            TreeMap<Character, Ty> parts = new TreeMap<>();
            l.parts().forEach((label, part) -> {
                if (r.parts().containsKey(label)) {
                    parts.put(label, joinOf(part, r.parts().get(label), bounds));
                }
            });
            return new Rec(parts);
        }
        return new Top();
    }

    Ty meetOf(Ty left, Ty right, Map<String, Ty> bounds) {
        if (isBelow(left, right, bounds)) {
            return left;
        }
        if (isBelow(right, left, bounds)) {
            return right;
        }
        if (left instanceof Fun l && right instanceof Fun r) {
            Ty to = meetOf(l.to(), r.to(), bounds);
            return to == null ? null : new Fun(joinOf(l.from(), r.from(), bounds), to);
        }
        if (left instanceof Scheme l && right instanceof Scheme r
            && sameTypes(l.bound(), r.bound(), Map.of())) {
            String name = freshName();
            Ty body = meetOf(put(l.body(), l.name(), new Var(name)),
                put(r.body(), r.name(), new Var(name)), opened(bounds, name, l.bound()));
            return body == null ? null : new Scheme(name, l.bound(), body);
        }
        if (left instanceof Rec l && right instanceof Rec r) {
            TreeMap<Character, Ty> parts = new TreeMap<>(l.parts());
            for (Character label : r.parts().keySet()) {
                Ty part = r.parts().get(label);
                Ty both = parts.containsKey(label) ? meetOf(parts.get(label), part, bounds) : part;
                if (both == null) {
                    return null;
                }
                parts.put(label, both);
            }
            return new Rec(parts);
        }
        return null;
    }

    private boolean has(int slot) {
        return slot >= 0 && slot < 4 && slots[slot] != null;
    }

    int below(int i, int j) {
        return !has(i) || !has(j) ? -2 : isBelow(slots[i], slots[j], Map.of()) ? 1 : 0;
    }

    int same(int i, int j) {
        return !has(i) || !has(j) ? -2 : sameTypes(slots[i], slots[j], Map.of()) ? 1 : 0;
    }

    int join(int i, int j, int k) {
        if (!has(i) || !has(j) || k < 0 || k > 3) {
            return -2;
        }
        return kept(joinOf(slots[i], slots[j], Map.of()), k);
    }

    int meet(int i, int j, int k) {
        if (!has(i) || !has(j) || k < 0 || k > 3) {
            return -2;
        }
        Ty type = meetOf(slots[i], slots[j], Map.of());
        return type == null ? 0 : kept(type, k);
    }

    private int kept(Ty type, int k) {
        int size = sizeOf(type);
        if (size > 16) {
            return -3;
        }
        slots[k] = type;
        return size;
    }

    int size(int slot) {
        return has(slot) ? sizeOf(slots[slot]) : 0;
    }

    int write(int slot) {
        if (!has(slot)) {
            return -2;
        }
        page = written(slots[slot], 0, Map.of());
        return page.length();
    }

    static String written(Ty type, int schemes, Map<String, Character> names) {
        if (type instanceof Var v) {
            return String.valueOf(names.get(v.name()));
        }
        if (type instanceof Fun f) {
            return "(" + written(f.from(), schemes, names) + ">" + written(f.to(), schemes, names) + ")";
        }
        if (type instanceof Scheme s) {
            char name = (char) (80 + schemes);
            Map<String, Character> inner = new HashMap<>(names);
            inner.put(s.name(), name);
            return "<" + name + ":" + written(s.bound(), schemes, names) + ">"
                + written(s.body(), schemes + 1, inner);
        }
        if (type instanceof Rec r) {
            List<String> parts = new ArrayList<>();
            r.parts().forEach((label, part) -> parts.add(label + written(part, schemes, names)));
            return "[" + String.join(",", parts) + "]";
        }
        return "T";
    }

    int charAt(int p) {
        return p < 0 || p >= page.length() ? -1 : page.charAt(p);
    }

    // ---- terms

    Ty exposed(Ty type, Map<String, Ty> bounds) {
        return type instanceof Var v ? exposed(bounds.get(v.name()), bounds) : type;
    }

    Ty typeIn(Tm t, Map<String, Ty> names, Map<String, Ty> bounds) throws Broken {
        Ty type = byRule(t, names, bounds);
        if (type == null || sizeOf(type) > 16) {
            throw new Broken(t.place);
        }
        return type;
    }

    private Ty byRule(Tm t, Map<String, Ty> names, Map<String, Ty> bounds) throws Broken {
        if (t.kind == 'v') {
            return names.get(t.name);
        }
        if (t.kind == '\\') {
            return new Fun(t.type, typeIn(t.parts.get(0), opened(names, t.name, t.type), bounds));
        }
        if (t.kind == '/') {
            return new Scheme(t.name, t.type, typeIn(t.parts.get(0), names, opened(bounds, t.name, t.type)));
        }
        List<Ty> types = new ArrayList<>();
        for (Tm part : t.parts) {
            types.add(typeIn(part, names, bounds));
        }
        switch (t.kind) {
            case '(':
                return exposed(types.get(0), bounds) instanceof Fun f
                    && isBelow(types.get(1), f.from(), bounds) ? f.to() : null;
            case '@':
                return exposed(types.get(0), bounds) instanceof Scheme s
                    && isBelow(t.type, s.bound(), bounds) ? put(s.body(), s.name(), t.type) : null;
            case '.':
                return exposed(types.get(0), bounds) instanceof Rec r
                    ? r.parts().get(t.name.charAt(0)) : null;
            case '?':
                return joinOf(types.get(0), types.get(1), bounds);
            default:
                TreeMap<Character, Ty> parts = new TreeMap<>();
                for (int i = 0; i < types.size(); i++) {
                    parts.put(t.name.charAt(i), types.get(i));
                }
                return new Rec(parts);
        }
    }

    private Ty termType() {
        try {
            return term == null ? null : typeIn(term, Map.of(), Map.of());
        } catch (Broken broken) {
            return null;
        }
    }

    int typeOf(int slot) {
        if (term == null || slot < 0 || slot > 3) {
            return -2;
        }
        try {
            slots[slot] = typeIn(term, Map.of(), Map.of());
            return -1;
        } catch (Broken broken) {
            return broken.place;
        }
    }

    boolean fits(int slot) {
        Ty type = termType();
        return type != null && has(slot) && isBelow(type, slots[slot], Map.of());
    }

    // ---- running

    boolean start() {
        if (termType() == null) {
            return false;
        }
        run = term;
        made = 0;
        return true;
    }

    private static Tm putTerm(Tm t, String name, Tm value) {
        if (!t.free.contains(name)) {
            return t;
        }
        if (t.kind == 'v') {
            return value;
        }
        List<Tm> parts = new ArrayList<>();
        for (Tm part : t.parts) {
            parts.add(putTerm(part, name, value));
        }
        return t.with(parts);
    }

    private static Tm stepped(Tm t) {
        if (t.kind == '?') {
            return t.parts.get(t.name.charAt(0) - '0');
        }
        for (int i = 0; i < t.parts.size(); i++) {
            if (!t.parts.get(i).isValue) {
                List<Tm> parts = new ArrayList<>(t.parts);
                parts.set(i, stepped(parts.get(i)));
                return t.with(parts);
            }
        }
        Tm whole = t.parts.get(0);
        if (t.kind == '(') {
            return putTerm(whole.parts.get(0), whole.name, t.parts.get(1));
        }
        if (t.kind == '@') {
            return whole.parts.get(0);
        }
        return whole.parts.get(whole.name.indexOf(t.name));
    }

    int step(int n) {
        if (run == null || n < 1 || n > 20) {
            return -2;
        }
        int count = 0;
        while (count < n && made < 60 && !run.isValue) {
            run = stepped(run);
            made++;
            count++;
        }
        return count;
    }

    int steps() {
        return run == null ? -1 : made;
    }

    int value() {
        if (run == null || !run.isValue) {
            return -1;
        }
        String value = writtenValue(run);
        if (value.length() > 100) {
            return -3;
        }
        page = value;
        return page.length();
    }

    // A part that is too long is as good as any other one that is.
    private static String writtenValue(Tm t) {
        if (t.kind != '{') {
            return t.kind == '\\' ? "f" : "g";
        }
        List<String> parts = new ArrayList<>();
        int length = 0;
        for (int i = 0; i < t.parts.size() && length <= 100; i++) {
            parts.add(t.name.charAt(i) + "=" + writtenValue(t.parts.get(i)));
            length += parts.get(i).length();
        }
        return "{" + String.join(",", parts) + "}";
    }
}
