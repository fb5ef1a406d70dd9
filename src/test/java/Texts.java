import java.util.ArrayList;
import java.util.HashMap;
import java.util.List;
import java.util.Map;
import java.util.Random;
import java.util.Set;
import java.util.HashSet;
import java.util.TreeMap;

/** Makes texts of types and terms by a seed: most terms have a type, some texts have a fault. */
final class Texts {
    /** What is open in a place, and how it is written there. */
    record Place(Map<String, Oracle.Ty> bounds, Map<String, Character> typeNames, Map<Character, Oracle.Ty> names) {
        Place withType(String name, char letter, Oracle.Ty bound) {
            Map<String, Oracle.Ty> newBounds = new HashMap<>(bounds);
            newBounds.put(name, bound);
            Map<String, Character> newNames = new HashMap<>(typeNames);
            newNames.values().removeIf(c -> c == letter);
            newNames.put(name, letter);
            return new Place(newBounds, newNames, names);
        }

        Place withName(char letter, Oracle.Ty type) {
            Map<Character, Oracle.Ty> newNames = new HashMap<>(names);
            newNames.put(letter, type);
            return new Place(bounds, typeNames, newNames);
        }
    }

    record Made(String text, Oracle.Ty type) { }

    static final Place OUTSIDE = new Place(Map.of(), Map.of(), Map.of());
    private static final String SIGNS = "TPQRSabcdxyz()<>[]{}:.,=\\/@?01 ef~";
    private final Random random;
    private final Oracle oracle = new Oracle();

    Texts(long seed) {
        random = new Random(seed);
    }

    int below(int n) {
        return random.nextInt(n);
    }

    // ---- types

    Oracle.Ty type(Map<String, Oracle.Ty> bounds, int budget) {
        // A large type should seldom end at once.
        int pick = budget > 4 && below(4) > 0 ? 3 + below(9) : below(budget < 2 ? 4 : 12);
        if (pick < 2 && !bounds.isEmpty()) {
            List<String> names = new ArrayList<>(bounds.keySet());
            return new Oracle.Var(names.get(below(names.size())));
        }
        if (pick < 3) {
            return new Oracle.Top();
        }
        if (pick < 6) {
            return recordType(bounds, budget - 1);
        }
        int left = 1 + below(Math.max(1, budget - 2));
        Oracle.Ty part = type(bounds, left);
        if (pick < 9) {
            return new Oracle.Fun(part, type(bounds, budget - 1 - left));
        }
        String name = oracle.freshName();
        Map<String, Oracle.Ty> inner = new HashMap<>(bounds);
        inner.put(name, part);
        return new Oracle.Scheme(name, part, type(inner, budget - 1 - left));
    }

    private Oracle.Ty recordType(Map<String, Oracle.Ty> bounds, int budget) {
        TreeMap<Character, Oracle.Ty> parts = new TreeMap<>();
        for (char label = 'x'; label <= 'z' && budget > 0; label++) {
            if (below(2) == 0) {
                parts.put(label, type(bounds, budget / 2));
            }
        }
        return new Oracle.Rec(parts);
    }

    /** A type like the other one, with something changed somewhere, so that they may compare. */
    Oracle.Ty near(Oracle.Ty type, Map<String, Oracle.Ty> bounds) {
        int pick = below(8);
        if (pick == 0) {
            return type(bounds, 3);
        }
        if (type instanceof Oracle.Var v && bounds.containsKey(v.name()) && pick < 3) {
            return bounds.get(v.name());
        }
        if (type instanceof Oracle.Fun f) {
            return pick < 4 ? new Oracle.Fun(near(f.from(), bounds), f.to())
                : new Oracle.Fun(f.from(), near(f.to(), bounds));
        }
        if (type instanceof Oracle.Scheme s) {
            Oracle.Ty bound = pick < 2 ? near(s.bound(), bounds) : s.bound();
            Map<String, Oracle.Ty> inner = new HashMap<>(bounds);
            inner.put(s.name(), bound);
            return new Oracle.Scheme(s.name(), bound, near(s.body(), inner));
        }
        if (type instanceof Oracle.Rec r) {
            TreeMap<Character, Oracle.Ty> parts = new TreeMap<>(r.parts());
            char label = (char) ('x' + below(3));
            if (!parts.containsKey(label)) {
                parts.put(label, type(bounds, 3));
            } else if (pick < 4) {
                parts.remove(label);
            } else {
                parts.put(label, near(parts.get(label), bounds));
            }
            return new Oracle.Rec(parts);
        }
        return type;
    }

    private static void freeIn(Oracle.Ty type, Set<String> free) {
        if (type instanceof Oracle.Var v) {
            free.add(v.name());
        } else if (type instanceof Oracle.Fun f) {
            freeIn(f.from(), free);
            freeIn(f.to(), free);
        } else if (type instanceof Oracle.Scheme s) {
            Set<String> body = new HashSet<>();
            freeIn(s.body(), body);
            body.remove(s.name());
            free.addAll(body);
            freeIn(s.bound(), free);
        } else if (type instanceof Oracle.Rec r) {
            r.parts().values().forEach(part -> freeIn(part, free));
        }
    }

    /** The text of a type, or null when four letters are not enough for it there. */
    String written(Oracle.Ty type, Map<String, Character> names) {
        if (type instanceof Oracle.Top) {
            return "T";
        }
        if (type instanceof Oracle.Var v) {
            return names.containsKey(v.name()) ? String.valueOf(names.get(v.name())) : null;
        }
        if (type instanceof Oracle.Fun f) {
            String from = written(f.from(), names);
            String to = written(f.to(), names);
            return from == null || to == null ? null : "(" + from + ">" + to + ")";
        }
        if (type instanceof Oracle.Scheme s) {
            char letter = (char) ('P' + below(4));
            Map<String, Character> inner = new HashMap<>(names);
            inner.values().removeIf(c -> c == letter);
            inner.put(s.name(), letter);
            String bound = written(s.bound(), names);
            String body = written(s.body(), inner);
            return bound == null || body == null ? null : "<" + letter + ":" + bound + ">" + body;
        }
        StringBuilder text = new StringBuilder("[");
        for (Map.Entry<Character, Oracle.Ty> entry : ((Oracle.Rec) type).parts().entrySet()) {
            String part = written(entry.getValue(), names);
            if (part == null) {
                return null;
            }
            text.append(text.length() > 1 ? "," : "").append(entry.getKey()).append(part);
        }
        return text.append(']').toString();
    }

    String writtenSomehow(Oracle.Ty type, Map<String, Character> names) {
        for (int i = 0; i < 8; i++) {
            String text = written(type, names);
            if (text != null) {
                return text;
            }
        }
        return null;
    }

    // ---- terms

    Made term(Place place, int budget) {
        for (int i = 0; i < 4; i++) {
            Made made = oneTerm(place, budget);
            if (made != null) {
                return made;
            }
        }
        return new Made("{}", new Oracle.Rec(new TreeMap<>()));
    }

    private Made oneTerm(Place place, int budget) {
        int pick = below(budget < 2 ? 3 : 22);
        if (pick < 3) {
            return variable(place);
        }
        if (pick < 6) {
            return function(place, type(place.bounds(), 1 + below(5)), budget);
        }
        if (pick < 8) {
            return general(place, type(place.bounds(), 1 + below(5)), budget);
        }
        if (pick < 10) {
            return record(place, budget);
        }
        if (pick < 14) {
            return application(place, budget);
        }
        if (pick < 17) {
            return special(place, budget);
        }
        return pick < 19 ? selection(place, budget) : choice(place, budget);
    }

    private Made variable(Place place) {
        if (place.names().isEmpty()) {
            return null;
        }
        List<Character> letters = new ArrayList<>(place.names().keySet());
        char letter = letters.get(below(letters.size()));
        return new Made(String.valueOf(letter), place.names().get(letter));
    }

    private Made function(Place place, Oracle.Ty from, int budget) {
        String text = writtenSomehow(from, place.typeNames());
        if (text == null) {
            return null;
        }
        char letter = (char) ('a' + below(4));
        Made body = term(place.withName(letter, from), budget - 1);
        return new Made("\\" + letter + ":" + text + "." + body.text(), new Oracle.Fun(from, body.type()));
    }

    private Made general(Place place, Oracle.Ty bound, int budget) {
        String text = writtenSomehow(bound, place.typeNames());
        if (text == null) {
            return null;
        }
        char letter = (char) ('P' + below(4));
        String name = oracle.freshName();
        Made body = term(place.withType(name, letter, bound), budget - 1);
        return new Made("/" + letter + ":" + text + "." + body.text(),
            new Oracle.Scheme(name, bound, body.type()));
    }

    private Made record(Place place, int budget) {
        StringBuilder text = new StringBuilder("{");
        TreeMap<Character, Oracle.Ty> parts = new TreeMap<>();
        for (char label = 'x'; label <= 'z'; label++) {
            if (below(2) == 0) {
                Made part = term(place, budget / 2);
                text.append(parts.isEmpty() ? "" : ",").append(label).append('=').append(part.text());
                parts.put(label, part.type());
            }
        }
        return new Made(text.append('}').toString(), new Oracle.Rec(parts));
    }

    private Made application(Place place, int budget) {
        Made left = below(2) == 0 ? term(place, budget - 1)
            : function(place, type(place.bounds(), 1 + below(4)), budget - 1);
        if (left == null || !(oracle.exposed(left.type(), place.bounds()) instanceof Oracle.Fun f)) {
            return null;
        }
        Made right = fitting(place, f.from(), budget / 2, 0);
        return right == null ? null : new Made("(" + left.text() + right.text() + ")", f.to());
    }

    private Made special(Place place, int budget) {
        Made whole = below(2) == 0 ? term(place, budget - 1)
            : general(place, type(place.bounds(), 1 + below(4)), budget - 1);
        if (whole == null || !(oracle.exposed(whole.type(), place.bounds()) instanceof Oracle.Scheme s)) {
            return null;
        }
        for (int i = 0; i < 6; i++) {
            Oracle.Ty argument = i == 0 ? s.bound() : i < 3 ? near(s.bound(), place.bounds())
                : type(place.bounds(), 1 + below(4));
            String text = writtenSomehow(argument, place.typeNames());
            if (text != null && oracle.isBelow(argument, s.bound(), place.bounds())) {
                return new Made("@" + whole.text() + text, oracle.put(s.body(), s.name(), argument));
            }
        }
        return null;
    }

    private Made selection(Place place, int budget) {
        Made whole = below(2) == 0 ? term(place, budget - 1) : record(place, budget - 1);
        if (!(oracle.exposed(whole.type(), place.bounds()) instanceof Oracle.Rec r) || r.parts().isEmpty()) {
            return null;
        }
        List<Character> labels = new ArrayList<>(r.parts().keySet());
        char label = labels.get(below(labels.size()));
        return new Made("." + label + whole.text(), r.parts().get(label));
    }

    private Made choice(Place place, int budget) {
        Made left = term(place, budget / 2);
        Made right = below(3) == 0 ? term(place, budget / 2)
            : fitting(place, near(left.type(), place.bounds()), budget / 2, 0);
        if (right == null) {
            return null;
        }
        return new Made("?" + below(2) + left.text() + right.text(),
            oracle.joinOf(left.type(), right.type(), place.bounds()));
    }

    /** A term whose type is below the wanted one, or null. */
    private Made fitting(Place place, Oracle.Ty want, int budget, int deep) {
        for (int i = 0; i < 2; i++) {
            Made made = below(2) == 0 ? variable(place) : term(place, budget);
            if (made != null && oracle.isBelow(made.type(), want, place.bounds())) {
                return made;
            }
        }
        if (deep > 6) {
            return null;
        }
        if (want instanceof Oracle.Fun f) {
            String text = writtenSomehow(f.from(), place.typeNames());
            char letter = (char) ('a' + below(4));
            Made body = text == null ? null
                : fitting(place.withName(letter, f.from()), f.to(), budget / 2, deep + 1);
            return body == null ? null
                : new Made("\\" + letter + ":" + text + "." + body.text(), new Oracle.Fun(f.from(), body.type()));
        }
        if (want instanceof Oracle.Scheme s) {
            return fittingGeneral(place, s, budget, deep);
        }
        if (want instanceof Oracle.Rec r) {
            StringBuilder text = new StringBuilder("{");
            TreeMap<Character, Oracle.Ty> parts = new TreeMap<>();
            for (Map.Entry<Character, Oracle.Ty> entry : r.parts().entrySet()) {
                Made part = fitting(place, entry.getValue(), budget / 2, deep + 1);
                if (part == null) {
                    return null;
                }
                text.append(parts.isEmpty() ? "" : ",").append(entry.getKey()).append('=').append(part.text());
                parts.put(entry.getKey(), part.type());
            }
            return new Made(text.append('}').toString(), new Oracle.Rec(parts));
        }
        return want instanceof Oracle.Top ? term(place, budget) : null;
    }

    private Made fittingGeneral(Place place, Oracle.Scheme want, int budget, int deep) {
        String text = writtenSomehow(want.bound(), place.typeNames());
        if (text == null) {
            return null;
        }
        char letter = (char) ('P' + below(4));
        String name = oracle.freshName();
        Oracle.Ty wanted = oracle.put(want.body(), want.name(), new Oracle.Var(name));
        Made body = fitting(place.withType(name, letter, want.bound()), wanted, budget / 2, deep + 1);
        return body == null ? null
            : new Made("/" + letter + ":" + text + "." + body.text(), new Oracle.Scheme(name, want.bound(), body.type()));
    }

    /** The text with one sign changed, taken out or put in. */
    String spoilt(String text) {
        StringBuilder spoilt = new StringBuilder(text);
        int at = below(text.length() + 1);
        char sign = SIGNS.charAt(below(SIGNS.length()));
        int pick = below(3);
        if (pick == 0 || at == text.length()) {
            spoilt.insert(at, sign);
        } else if (pick == 1) {
            spoilt.setCharAt(at, sign);
        } else {
            spoilt.deleteCharAt(at);
        }
        return spoilt.toString();
    }
}
