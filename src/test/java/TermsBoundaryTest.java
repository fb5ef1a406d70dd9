/**
 * The section "Terms", sentence by sentence: what is still a text, a type or a term, what is none,
 * and where the fault is. The depth has a test of its own, DepthTest.
 */
public final class TermsBoundaryTest {
    private static final int NONE = BoundedSchemes.NONE;
    private static final int BAD = BoundedSchemes.BAD;
    private static final String TYPE_SIGNS = "TPQRS(<[";
    private static final String TERM_SIGNS = "abcd\\(/@{.?";
    private static final Checks checks = new Checks();

    public static void main(String[] args) {
        characters();
        sixtyCharacters();
        charactersOfTypes();
        charactersOfTerms();
        beginnings();
        labelsInTheirOrder();
        closedTypes();
        closedTerms();
        innermostBinders();
        sizesOfTypes();
        sizesOfTypesInTerms();
        faultsComeBeforeBad();
        checks.end();
    }

    /** "at most 60 characters with codes 32 .. 126" */
    private static void characters() {
        BoundedSchemes s = new BoundedSchemes();
        int calls = 0;
        for (int c = 0; c <= 0xffff; c++) {
            boolean taken = c >= 32 && c <= 126;
            if (calls == 500 || taken) {
                checks.due("the text before " + c, s.readType(0), 0);
                s = new BoundedSchemes();
                calls = 0;
            }
            checks.due("type " + c, s.type((char) c), taken);
            calls++;
            if (taken) {
                s.type((char) c);
                checks.due("two characters " + c, s.readType(0), c == 'T' || c >= 'P' && c <= 'S' ? 1
                    : c == '(' ? 2 : c == '[' || c == '<' ? 1 : 0);
            }
        }
    }

    private static void sixtyCharacters() {
        for (int n = 58; n <= 62; n++) {
            BoundedSchemes s = new BoundedSchemes();
            String text = "[x" + Checks.times("<P:T>", n);
            for (int i = 0; i < n; i++) {
                checks.due("character " + i, s.type(text.charAt(i)), i < 60);
            }
            checks.due("the fault of a beginning of " + n, s.readType(0), Math.min(n, 60));
            checks.due("sixty are free again", s.type('T'), true);
            checks.due("a text of one", s.readType(0), NONE);
        }
        type("[x" + Checks.times("<P:T>", 11) + "[]]", BAD);
        type("[x" + Checks.times("<P:T>", 11) + "[]T", 59);
        term(Checks.SIXTY_CHARACTERS, NONE);
        term(Checks.SIXTY_CHARACTERS.substring(0, 59), 59);
        term(Checks.SIXTY_CHARACTERS.substring(0, 59) + "}", 59);
        term(Checks.MORE_THAN_SIXTY_STEPS, NONE);
    }

    private static void type(String text, int want) {
        BoundedSchemes s = Checks.withTypes("[x[],z(T>T)]");
        checks.due("readType of " + text, Checks.readType(s, text, 0), want);
        checks.due("the slot behind " + text, Checks.written(s, 0).equals("[x[],z(T>T)]"), want != NONE);
        checks.due("the text behind " + text, s.readType(1), 0);
    }

    private static void term(String text, int want) {
        BoundedSchemes s = Checks.withTerm("{x={},z=\\a:T.a}");
        checks.due("readTerm of " + text, Checks.readTerm(s, text), want);
        s.typeOf(0);
        checks.due("the term behind " + text, Checks.written(s, 0).equals("[x[],z(T>T)]"), want != NONE);
        checks.due("the text behind " + text, s.readTerm(), 0);
    }

    /** Behind this beginning just these characters can stand, and each other one is the fault. */
    private static void next(boolean ofType, String beginning, String can) {
        for (char c = 32; c <= 126; c++) {
            BoundedSchemes s = new BoundedSchemes();
            Checks.type(s, beginning + c);
            int fault = ofType ? s.readType(0) : s.readTerm();
            boolean stands = fault != beginning.length();
            checks.due(c + " behind " + beginning, stands, can.indexOf(c) >= 0);
            boolean known = fault == beginning.length() || fault == beginning.length() + 1
                || fault == NONE || fault == BAD;
            checks.due("the fault of " + beginning + c + ", " + fault + ", is near the end", known, true);
        }
    }

    private static void charactersOfTypes() {
        next(true, "", TYPE_SIGNS);
        next(true, "T", "");
        next(true, "S", "");
        next(true, "(", TYPE_SIGNS);
        next(true, "(T", ">");
        next(true, "(T>", TYPE_SIGNS);
        next(true, "(T>T", ")");
        next(true, "(T>T)", "");
        next(true, "<", "PQRS");
        next(true, "<Q", ":");
        next(true, "<Q:", TYPE_SIGNS);
        next(true, "<Q:T", ">");
        next(true, "<Q:T>", TYPE_SIGNS);
        next(true, "<Q:T>Q", "");
        next(true, "[", "xyz]");
        next(true, "[]", "");
        next(true, "[x", TYPE_SIGNS);
        next(true, "[xT", ",]");
        next(true, "[xT,", "yz");
        next(true, "[xT,y", TYPE_SIGNS);
        next(true, "[xT,yT", ",]");
        next(true, "[xT,yT,", "z");
        next(true, "[xT,yT,zT", "]");
        next(true, "[xT,zT", "]");
        next(true, "[yT", ",]");
        next(true, "[yT,", "z");
        next(true, "[zT", "]");
        next(true, "[xT,yT,zT]", "");
        next(true, "[x(T", ">");
        next(true, "([x[]", ",]");
    }

    private static void charactersOfTerms() {
        next(false, "", TERM_SIGNS);
        next(false, "d", "");
        next(false, "\\", "abcd");
        next(false, "\\a", ":");
        next(false, "\\a:", TYPE_SIGNS);
        next(false, "\\a:T", ".");
        next(false, "\\a:(T", ">");
        next(false, "\\a:T.", TERM_SIGNS);
        next(false, "\\a:T.a", "");
        next(false, "(", TERM_SIGNS);
        next(false, "(a", TERM_SIGNS);
        next(false, "(ab", ")");
        next(false, "(ab)", "");
        next(false, "/", "PQRS");
        next(false, "/P", ":");
        next(false, "/P:", TYPE_SIGNS);
        next(false, "/P:T", ".");
        next(false, "/P:T.", TERM_SIGNS);
        next(false, "@", TERM_SIGNS);
        next(false, "@a", TYPE_SIGNS);
        next(false, "@aT", "");
        next(false, "@a[", "xyz]");
        charactersOfRecords();
        next(false, ".", "xyz");
        next(false, ".x", TERM_SIGNS);
        next(false, ".xa", "");
        next(false, "?", "01");
        next(false, "?0", TERM_SIGNS);
        next(false, "?1a", TERM_SIGNS);
        next(false, "?1ab", "");
    }

    private static void charactersOfRecords() {
        next(false, "{", "xyz}");
        next(false, "{}", "");
        next(false, "{x", "=");
        next(false, "{x=", TERM_SIGNS);
        next(false, "{x=a", ",}");
        next(false, "{x=a,", "yz");
        next(false, "{x=a,y", "=");
        next(false, "{x=a,y=a", ",}");
        next(false, "{x=a,y=a,", "z");
        next(false, "{x=a,y=a,z=a", "}");
        next(false, "{x=a,z=a", "}");
        next(false, "{y=a", ",}");
        next(false, "{y=a,", "z");
        next(false, "{z=a", "}");
        next(false, "{z=a}", "");
    }

    /** "the length of the text, when there is none but the text is none" */
    private static void beginnings() {
        String[] types = {"T", "[]", "(T>(T>T))", "<P:[xT]><Q:P>(Q>P)", "[x[],y[zT],z<P:T>P]", "((T>T)>[y[]])"};
        for (String text : types) {
            for (int n = 0; n < text.length(); n++) {
                type(text.substring(0, n), n);
            }
            type(text, NONE);
            for (char c = 32; c <= 126; c++) {
                type(text + c, text.length());
            }
        }
        String[] terms = {"{}", "\\a:[xT].(\\b:T.ba)", "/P:T.\\a:P.a", "@/P:T.{}(T>T)", "{x={},y=\\a:T.a,z={x={}}}",
            ".x{x={}}", "?0{}?1{}{}", Checks.SIXTY_CHARACTERS};
        for (String text : terms) {
            for (int n = 0; n < text.length(); n++) {
                term(text.substring(0, n), n);
            }
            term(text, NONE);
            for (char c = 32; c <= 126 && text.length() < 60; c++) {
                term(text + c, text.length());
            }
        }
    }

    /** "some of the labels, or none, in their order" */
    private static void labelsInTheirOrder() {
        String[] taken = {"", "x", "y", "z", "xy", "xz", "yz", "xyz"};
        for (String labels : taken) {
            type(recordType(labels), NONE);
            term(record(labels), NONE);
        }
        orderFault("xx", 1);
        orderFault("yx", 1);
        orderFault("yy", 1);
        orderFault("xyx", 2);
        orderFault("xyy", 2);
        orderFault("xzy", 2);
        orderFault("zx", 1);
        orderFault("zz", 1);
        orderFault("yzz", 2);
        orderFault("xyzx", 3);
    }

    /** The labels from number WRONG on can't stand; behind z not even the comma can. */
    private static void orderFault(String labels, int wrong) {
        boolean comma = labels.charAt(wrong - 1) == 'z';
        type(recordType(labels), 3 * wrong + (comma ? 0 : 1));
        term(record(labels), 5 * wrong + (comma ? 0 : 1));
    }

    private static String recordType(String labels) {
        StringBuilder text = new StringBuilder("[");
        for (int i = 0; i < labels.length(); i++) {
            text.append(i > 0 ? "," : "").append(labels.charAt(i)).append('T');
        }
        return text.append(']').toString();
    }

    private static String record(String labels) {
        StringBuilder text = new StringBuilder("{");
        for (int i = 0; i < labels.length(); i++) {
            text.append(i > 0 ? "," : "").append(labels.charAt(i)).append("={}");
        }
        return text.append('}').toString();
    }

    /** "A type or term is CLOSED when everything is bound." */
    private static void closedTypes() {
        for (String name : new String[] {"P", "Q", "R", "S"}) {
            type(name, BAD);
            type("(T>" + name + ")", BAD);
            type("<" + name + ":T>" + name, NONE);
            type("<" + name + ":" + name + ">T", BAD);
            type("<" + name + ":T><" + name + ":" + name + ">" + name, NONE);
            type("(<" + name + ":T>" + name + ">" + name + ")", BAD);
            type("(" + name + "><" + name + ":T>" + name + ")", BAD);
            type("[x<" + name + ":T>T,y" + name + "]", BAD);
            type("<" + name + ":T>[x" + name + ",y<" + name + ":T>T,z" + name + "]", NONE);
        }
        type("<P:T>Q", BAD);
        type("<P:<Q:T>Q>P", NONE);
        type("<P:<Q:T>Q>Q", BAD);
        type("<P:T><Q:T><R:T><S:T>[xP,y(Q>R),zS]", NONE);
        type("<P:T><Q:T><R:T>[xP,y(Q>R),zS]", BAD);
    }

    private static void closedTerms() {
        for (String name : new String[] {"a", "b", "c", "d"}) {
            term(name, BAD);
            term("\\" + name + ":T." + name, NONE);
            term("(\\" + name + ":T." + name + name + ")", BAD);
            term("(" + name + "\\" + name + ":T." + name + ")", BAD);
            term("{x=\\" + name + ":T.{},y=" + name + "}", BAD);
            term("\\" + name + ":T.\\" + name + ":T." + name, NONE);
        }
        term("\\a:T.b", BAD);
        term("\\a:T.\\b:T.\\c:T.\\d:T.{x=(ab),y=c,z=d}", NONE);
        term("\\a:T.\\b:T.\\c:T.{x=(ab),y=c,z=d}", BAD);
        for (String name : new String[] {"P", "Q", "R", "S"}) {
            term("\\a:" + name + ".{}", BAD);
            term("/" + name + ":" + name + ".{}", BAD);
            term("@{}" + name, BAD);
            term("/" + name + ":T.\\a:" + name + ".{}", NONE);
            term("/" + name + ":T./" + name + ":" + name + ".{}", NONE);
            term("/" + name + ":T.@{}" + name, NONE);
            term("@/" + name + ":T.{}" + name, BAD);
            term("(/" + name + ":T.{}\\a:" + name + ".a)", BAD);
            term("\\a:<" + name + ":T>" + name + ".\\b:" + name + ".a", BAD);
        }
        term("?0{}a", BAD);
        term("?1a{}", BAD);
        term(".xa", BAD);
    }

    /** "what stands there under this name belongs to the innermost one that binds it" */
    private static void innermostBinders() {
        written("<P:T><P:[]>P", "<P:T><Q:[]>Q");
        written("<P:[]><P:P>P", "<P:[]><Q:P>Q");
        written("<P:T>(<P:P>P>P)", "<P:T>(<Q:P>Q>P)");
        written("<Q:T><P:<Q:Q>Q>(Q>P)", "<P:T><Q:<Q:P>Q>(P>Q)");
        typed("\\a:T.\\a:[].a", "(T>([]>[]))");
        typed("\\a:[].(\\a:T.aa)", "([]>T)");
        typed("\\a:[]..x{x=a,y=\\a:T.a}", "([]>[])");
        typed("/P:T./P:[].\\a:P.a", "<P:T><Q:[]>(Q>Q)");
        typed("/P:T.\\a:P./P:P.\\b:P.a", "<P:T>(P><Q:P>(Q>P))");
        typed("/P:T.\\a:<P:P>P.a", "<P:T>(<Q:P>Q><Q:P>Q)");
    }

    private static void written(String text, String want) {
        checks.due("what is read of " + text, Checks.written(Checks.withTypes(text), 0), want);
    }

    private static void typed(String term, String type) {
        BoundedSchemes s = Checks.withTerm(term);
        checks.due("typeOf " + term, s.typeOf(0), NONE);
        checks.due("the type of " + term, Checks.written(s, 0), type);
    }

    /** "BAD when ... its size is above 16": a type of 16 types of each kind, and one of 17. */
    private static void sizesOfTypes() {
        String seven = Checks.times("<P:T>", 7);
        String nine = "(T>(T>(T>(T>T))))";
        sized("[x" + nine + ",y(T>(T>T)),zT]", 16);
        type("[x" + nine + ",y(T>(T>T)),z[xT]]", BAD);
        sized(Checks.times("[x", 15) + "T" + Checks.times("]", 15), 16);
        type(Checks.times("[x", 16) + "T" + Checks.times("]", 16), BAD);
        sized(Checks.times("[z", 15) + "[]" + Checks.times("]", 15), 16);
        type(Checks.times("[z", 16) + "[]" + Checks.times("]", 16), BAD);
        sized(Checks.times("(T>", 7) + "[xT]" + Checks.times(")", 7), 16);
        type(Checks.times("(T>", 8) + "T" + Checks.times(")", 8), BAD);
        sized(Checks.times("(", 7) + "[xT]" + Checks.times(">T)", 7), 16);
        type(Checks.times("(", 8) + "T" + Checks.times(">T)", 8), BAD);
        sized(seven + "P", 15);
        sized(seven + "[yP]", 16);
        type(seven + "(P>P)", BAD);
        type(seven + "<P:T>P", BAD);
        sized("<P:" + Checks.times("[x", 13) + "T" + Checks.times("]", 13) + ">P", 16);
        type("<P:" + Checks.times("[x", 14) + "T" + Checks.times("]", 14) + ">P", BAD);
    }

    private static void sized(String text, int size) {
        BoundedSchemes s = Checks.withTypes(text);
        checks.due("size of " + text, s.size(0), size);
    }

    /** "BAD when ... a type in it has a size above 16" */
    private static void sizesOfTypesInTerms() {
        String sixteen = Checks.times("[x", 15) + "T" + Checks.times("]", 15);
        String seventeen = Checks.times("[x", 16) + "T" + Checks.times("]", 16);
        for (String term : new String[] {"\\a:#.a", "/P:#.{}", "@{}#", "?0{}\\a:#.{}", "@/P:#.{}T"}) {
            term(term.replace("#", sixteen), NONE);
            term(term.replace("#", seventeen), BAD);
        }
        // Each type counts for itself: two of 9 are no type of 18.
        String nine = Checks.times("[x", 8) + "T" + Checks.times("]", 8);
        term("\\a:" + nine + ".\\a:" + nine + ".a", NONE);
    }

    private static void faultsComeBeforeBad() {
        String seventeen = Checks.times("[x", 16) + "T" + Checks.times("]", 16);
        type("P ", 1);
        type("(P>", 3);
        type(seventeen + "]", 49);
        type(seventeen.substring(0, 48), 48);
        term("a ", 1);
        term("(a", 2);
        term("\\a:" + seventeen + ".", 53);
        term("\\a:" + seventeen + ".T", 53);
    }
}
