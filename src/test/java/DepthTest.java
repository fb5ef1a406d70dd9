/**
 * "Types and terms in a term, or in a type, lie in one another at most 24 deep (the whole is 1 deep;
 * what would hold another one 25 deep can't stand: that very sign, or label)."
 */
public final class DepthTest {
    private static final int NONE = BoundedSchemes.NONE;
    private static final int BAD = BoundedSchemes.BAD;
    private static final int LIMIT = 24;
    private static final String[] INTO_TERMS = {"\\a:T.", "(", "(a", "({}", "/P:T.", "@", "{x=", "{x=a,y=", "{x={},z=",
        "{y=a,z=", ".x", ".y", ".z", "?0", "?1", "?0a", "?1{}"};
    private static final String[] INTO_TYPES_OF_TERMS = {"\\a:", "/P:", "@a", "@{}"};
    private static final String[] INTO_TYPES = {"(", "(T>", "([]>", "<P:", "<P:T>", "[x", "[y", "[z", "[xT,y", "[xT,z",
        "[yT,z", "[x[],yT,z"};
    private static final Checks checks = new Checks();

    public static void main(String[] args) {
        typesInTypes();
        termsInTerms();
        typesInTerms();
        deepWholes();
        checks.end();
    }

    private static int read(boolean ofType, String text) {
        BoundedSchemes s = new BoundedSchemes();
        Checks.type(s, text);
        return ofType ? s.readType(0) : s.readTerm();
    }

    private static void stands(boolean ofType, String text) {
        int fault = read(ofType, text);
        checks.due(text + ", whose fault is " + fault + ", stands",
            fault == text.length() || fault == NONE || fault == BAD, true);
    }

    /** All but the last character stands. */
    private static void falls(boolean ofType, String text) {
        checks.due("the fault of " + text, read(ofType, text), text.length() - 1);
    }

    /** What can stand, and what can't, behind a beginning whose next type lies this deep. */
    private static void typeSigns(boolean ofType, String beginning, int depth) {
        for (String sign : new String[] {"T", "P", "S", "[", "[]"}) {
            stands(ofType, beginning + sign);
        }
        for (String sign : new String[] {"(", "<", "[x", "[y", "[z"}) {
            if (depth < LIMIT) {
                stands(ofType, beginning + sign);
            } else {
                falls(ofType, beginning + sign);
            }
        }
    }

    private static void termSigns(String beginning, int depth) {
        for (String sign : new String[] {"a", "d", "{", "{}"}) {
            stands(false, beginning + sign);
        }
        for (String sign : new String[] {"\\", "(", "/", "@", ".", "?", "{x", "{y", "{z"}) {
            if (depth < LIMIT) {
                stands(false, beginning + sign);
            } else {
                falls(false, beginning + sign);
            }
        }
    }

    private static void typesInTypes() {
        for (String into : INTO_TYPES) {
            for (int depth = LIMIT - 2; depth <= LIMIT; depth++) {
                typeSigns(true, Checks.times("(", depth - 2) + into, depth);
                typeSigns(true, Checks.times("[y", depth - 2) + into, depth);
                typeSigns(true, "(T>" + Checks.times("(", depth - 3) + into, depth);
            }
        }
    }

    private static void termsInTerms() {
        for (String into : INTO_TERMS) {
            for (int depth = LIMIT - 2; depth <= LIMIT; depth++) {
                termSigns(Checks.times("(", depth - 2) + into, depth);
                termSigns(Checks.times(".x", depth - 2) + into, depth);
                termSigns(Checks.times("@", depth - 2) + into, depth);
                termSigns("(a" + Checks.times("?1", depth - 3) + into, depth);
                termSigns("/P:T." + Checks.times("(", depth - 3) + into, depth);
            }
        }
    }

    private static void typesInTerms() {
        for (String into : INTO_TYPES_OF_TERMS) {
            for (int depth = LIMIT - 2; depth <= LIMIT; depth++) {
                typeSigns(false, Checks.times("(", depth - 2) + into, depth);
                typeSigns(false, Checks.times(".z", depth - 2) + into, depth);
                for (String more : INTO_TYPES) {
                    typeSigns(false, Checks.times("(", depth - 3) + into + more, depth);
                    typeSigns(false, into + Checks.times("(", depth - 3) + more, depth);
                }
            }
        }
    }

    private static void deepWholes() {
        checks.due("23 signs and a record", read(false, Checks.times(".x", 23) + "{}"), NONE);
        checks.due("24 signs and a record", read(false, Checks.times(".x", 24) + "{}"), 46);
        checks.due("22 signs and a label", read(false, Checks.times(".x", 22) + "{x={}}"), NONE);
        checks.due("23 signs and a label", read(false, Checks.times(".x", 23) + "{x={}}"), 47);
        checks.due("23 types", read(false, Checks.times("@", 23) + "{}" + Checks.times("T", 23)), NONE);
        checks.due("24 types", read(false, Checks.times("@", 24) + "{}" + Checks.times("T", 24)), 23);
        checks.due("23 signs and a variable", read(false, Checks.times(".x", 23) + "a"), BAD);
        checks.due("22 signs and a function", read(false, Checks.times(".x", 22) + "\\a:T.a"), NONE);
        checks.due("23 signs and a function", read(false, Checks.times(".x", 23) + "\\a:T.a"), 46);
        // A side that ends leaves the other side its depth.
        checks.due("two sides", read(false, "(" + Checks.times(".x", 22) + "{}{})"), NONE);
        checks.due("two sides, one too deep", read(false, "({}" + Checks.times(".x", 23) + "{})"), 47);
        checks.due("two deep sides", read(false, "?0" + Checks.times("@", 13) + "{}" + Checks.times("T", 13)
            + Checks.times("@", 13) + "{}" + Checks.times("T", 13)), NONE);
    }
}
