/**
 * Steps made on the very text of a closed term. What is put in for a name is closed itself, as
 * nothing inside of a function, or a term for every type, is run, so no name can be caught.
 */
final class Rewriting {
    private Rewriting() { }

    /** The place behind the type that begins at a place. */
    static int endOfType(String text, int at) {
        char c = text.charAt(at);
        if (c == '(') {
            return endOfType(text, endOfType(text, at + 1) + 1) + 1;
        }
        if (c == '<') {
            return endOfType(text, endOfType(text, at + 3) + 1);
        }
        int next = at + 1;
        if (c == '[') {
            while (text.charAt(next) != ']') {
                next = endOfType(text, text.charAt(next) == ',' ? next + 2 : next + 1);
            }
            next++;
        }
        return next;
    }

    /** The place behind the term that begins at a place. */
    static int endOfTerm(String text, int at) {
        switch (text.charAt(at)) {
            case '\\':
            case '/':
                return endOfTerm(text, bodyOf(text, at));
            case '(':
                return endOfTerm(text, endOfTerm(text, at + 1)) + 1;
            case '@':
                return endOfType(text, endOfTerm(text, at + 1));
            case '.':
                return endOfTerm(text, at + 2);
            case '?':
                return endOfTerm(text, endOfTerm(text, at + 2));
            case '{':
                int next = at + 1;
                while (text.charAt(next) != '}') {
                    next = endOfTerm(text, text.charAt(next) == ',' ? next + 3 : next + 2);
                }
                return next + 1;
            default:
                return at + 1;
        }
    }

    private static int bodyOf(String text, int at) {
        return endOfType(text, at + 3) + 1;
    }

    static boolean isValue(String term) {
        return placeOfStep(term, 0) < 0;
    }

    /** Where the term begins that the next step changes, in the term at a place; -1 for a value. */
    private static int placeOfStep(String text, int at) {
        switch (text.charAt(at)) {
            case '?':
                return at;
            case '(':
                int inLeft = placeOfStep(text, at + 1);
                int inRight = inLeft >= 0 ? inLeft : placeOfStep(text, endOfTerm(text, at + 1));
                return inRight >= 0 ? inRight : at;
            case '@':
            case '.':
                int inside = placeOfStep(text, text.charAt(at) == '@' ? at + 1 : at + 2);
                return inside >= 0 ? inside : at;
            case '{':
                int next = at + 1;
                while (text.charAt(next) != '}') {
                    int part = text.charAt(next) == ',' ? next + 3 : next + 2;
                    int found = placeOfStep(text, part);
                    if (found >= 0) {
                        return found;
                    }
                    next = endOfTerm(text, part);
                }
                return -1;
            default:
                return -1;
        }
    }

    /** The term after one step; it must be no value. */
    static String stepped(String term) {
        int at = placeOfStep(term, 0);
        int end = endOfTerm(term, at);
        return term.substring(0, at) + result(term.substring(at, end)) + term.substring(end);
    }

    private static String result(String term) {
        char c = term.charAt(0);
        if (c == '?') {
            int second = endOfTerm(term, 2);
            return term.charAt(1) == '0' ? term.substring(2, second) : term.substring(second);
        }
        if (c == '.') {
            return partOf(term.substring(2), term.charAt(1));
        }
        int second = endOfTerm(term, 1);
        String body = term.substring(bodyOf(term, 1), second);
        if (c == '(') {
            return withTerm(body, term.charAt(2), term.substring(second, term.length() - 1));
        }
        return withType(body, term.charAt(2), term.substring(second));
    }

    private static String partOf(String recordTerm, char label) {
        int at = 1;
        while (recordTerm.charAt(at) != label) {
            int next = endOfTerm(recordTerm, at + 2);
            at = recordTerm.charAt(next) == ',' ? next + 1 : next;
        }
        return recordTerm.substring(at + 2, endOfTerm(recordTerm, at + 2));
    }

    // A sign a .. d stands for a variable wherever it stands but behind a \.
    private static String withTerm(String body, char name, String value) {
        StringBuilder made = new StringBuilder();
        for (int at = 0; at < body.length(); at++) {
            char c = body.charAt(at);
            if (c == '\\' && body.charAt(at + 1) == name) {
                int end = endOfTerm(body, at);
                made.append(body, at, end);
                at = end - 1;
            } else if (c == '\\') {
                made.append(c).append(body.charAt(at + 1));
                at++;
            } else {
                made.append(c == name ? value : String.valueOf(c));
            }
        }
        return made.toString();
    }

    // A sign P .. S stands for a type variable wherever it stands but behind a / or a <. The bound
    // of one that binds the name again is still outside of that one.
    private static String withType(String body, char name, String type) {
        StringBuilder made = new StringBuilder();
        for (int at = 0; at < body.length(); at++) {
            char c = body.charAt(at);
            if (c != '/' && c != '<') {
                made.append(c == name ? type : String.valueOf(c));
                continue;
            }
            int inside = bodyOf(body, at);
            made.append(body, at, at + 3);
            made.append(withType(body.substring(at + 3, inside - 1), name, type));
            made.append(body.charAt(inside - 1));
            int end = c == '/' ? endOfTerm(body, at) : endOfType(body, at);
            if (body.charAt(at + 1) == name) {
                made.append(body, inside, end);
                at = end - 1;
            } else {
                at = inside - 1;
            }
        }
        return made.toString();
    }

    /** A value as the page shows it. */
    static String shown(String value) {
        char c = value.charAt(0);
        if (c != '{') {
            return c == '\\' ? "f" : "g";
        }
        StringBuilder made = new StringBuilder("{");
        int at = 1;
        while (value.charAt(at) != '}') {
            if (value.charAt(at) == ',') {
                made.append(',');
                at++;
            }
            int end = endOfTerm(value, at + 2);
            made.append(value.charAt(at)).append('=').append(shown(value.substring(at + 2, end)));
            at = end;
        }
        return made.append('}').toString();
    }
}
