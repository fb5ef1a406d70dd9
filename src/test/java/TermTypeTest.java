/** Promises 12 and 13: typeOf, fits. */
public final class TermTypeTest {
    private static final int NONE = BoundedSchemes.NONE;
    private static final int BAD = BoundedSchemes.BAD;
    private static final Checks checks = new Checks();

    public static void main(String[] args) {
        typesByRule();
        typesOfOpenVariables();
        variablesUnderLabels();
        typesWithJoins();
        brokenRules();
        tooLargeTypes();
        slotsOfTypeOf();
        fitting();
        checks.end();
    }

    private static void typed(String term, String type) {
        BoundedSchemes s = Checks.withTerm(term);
        checks.due("typeOf " + term, s.typeOf(0), NONE);
        checks.due("the type of " + term, Checks.written(s, 0), type);
        checks.due("start " + term, s.start(), true);
    }

    private static void broken(String term, int place) {
        BoundedSchemes s = Checks.withTerm(term);
        checks.due("typeOf " + term, s.typeOf(0), place);
        checks.due("the slot after " + term, s.size(0), 0);
        checks.due("start " + term, s.start(), false);
        checks.due("steps of " + term, s.steps(), NONE);
    }

    private static void typesByRule() {
        typed("{}", "[]");
        typed("{x={},z={y={}}}", "[x[],z[y[]]]");
        typed("\\a:T.a", "(T>T)");
        typed("\\a:T.\\a:[].a", "(T>([]>[]))");
        typed("\\a:T.\\b:[].a", "(T>([]>T))");
        typed("/P:T.{}", "<P:T>[]");
        typed("/Q:[].\\a:Q.a", "<P:[]>(P>P)");
        typed("(\\a:T.a{})", "T");
        typed("(\\a:[].a{x={}})", "[]");
        typed("(\\a:T.{}\\a:T.a)", "[]");
        typed("@/P:T.\\a:P.a[xT]", "([xT]>[xT])");
        typed("@/P:[].\\a:P.a[xT]", "([xT]>[xT])");
        typed("@/P:T./Q:P.\\a:P.\\b:Q.b[]", "<P:[]>([]>(P>P))");
        typed("@/P:T./Q:T.\\a:P.a<R:T>R", "<P:T>(<Q:T>Q><Q:T>Q)");
        typed("@/P:T./S:<Q:P>(P>Q).{}<R:T>R", "<P:<P:<P:T>P>(<Q:T>Q>P)>[]");
        typed("@@/P:T.(\\a:T./Q:P.a{})T[]", "T");
        typed(".x{x={},y=\\a:T.a}", "[]");
        typed(".y{x={},y=\\a:T.a}", "(T>T)");
    }

    private static void typesOfOpenVariables() {
        typed("/P:(T>[]).\\a:P.(a{})", "<P:(T>[])>(P>[])");
        typed("/P:(T>[])./Q:P.\\a:Q.(aa)", "<P:(T>[])><Q:P>(Q>[])");
        typed("/P:[x[]].\\a:P..xa", "<P:[x[]]>(P>[])");
        typed("/P:<Q:T>Q.\\a:P.@aP", "<P:<P:T>P>(P>P)");
        typed("/P:T.\\a:P./P:T.a", "<P:T>(P><Q:T>P)");
        typed("/P:T.\\a:P./P:P.\\b:P.{x=a,y=b}", "<P:T>(P><Q:P>(Q>[xP,yQ]))");
        typed("/P:T.\\a:<Q:P>Q./R:P.@aR", "<P:T>(<Q:P>Q><Q:P>Q)");
        typed("/P:T.\\a:<Q:T>(Q>P)./R:P.a", "<P:T>(<Q:T>(Q>P)><Q:P><R:T>(R>P))");
        typed("/P:<Q:T>(Q>Q)./R:T.\\a:P.@aR", "<P:<P:T>(P>P)><Q:T>(P>(Q>Q))");
        typed("(\\a:<P:T>(P>P).(@a<P:T>(P>P)a)/Q:T.\\b:Q.b)", "<P:T>(P>P)");
        typed("/P:[xT].\\a:(P>T).\\b:P.(ab)", "<P:[xT]>((P>T)>(P>T))");
        typed("/P:[xT].\\a:([xT]>T).\\b:P.(ab)", "<P:[xT]>(([xT]>T)>(P>T))");
    }

    /** A variable under some of the labels is renamed, and replaced, under each of them. */
    private static void variablesUnderLabels() {
        for (String labels : new String[] {"x", "y", "z", "xy", "xz", "yz", "xyz"}) {
            String inner = under(labels, "P");
            typed("\\a:<P:T>" + inner + "./Q:T.a",
                "(<P:T>" + inner + "><P:T><Q:T>" + under(labels, "Q") + ")");
            typed("@/P:T.\\a:" + inner + ".a[]", "(" + under(labels, "[]") + ">" + under(labels, "[]") + ")");
            typed("@/P:T./Q:" + inner + ".{}[]", "<P:" + under(labels, "[]") + ">[]");
            typed("@/P:T./Q:T.\\a:" + under(labels, "Q") + ".{}[]", "<P:T>(" + inner + ">[])");
        }
        typed("@/P:T.\\a:(T>P).aT", "((T>T)>(T>T))");
        typed("@/P:T.\\a:(P>T).aT", "((T>T)>(T>T))");
        typed("@/P:T.\\a:[xT,yP].aT", "([xT,yT]>[xT,yT])");
    }

    private static String under(String labels, String type) {
        StringBuilder text = new StringBuilder("[");
        for (int i = 0; i < labels.length(); i++) {
            text.append(i > 0 ? "," : "").append(labels.charAt(i)).append(type);
        }
        return text.append(']').toString();
    }

    private static void typesWithJoins() {
        typed("?0{x={}}{y={}}", "[]");
        typed("?1{x={},y={}}{y={x={}}}", "[y[]]");
        typed("?0{}\\a:T.a", "T");
        typed("?0\\a:[xT].a\\a:[yT].a", "([xT,yT]>[])");
        typed("?0\\a:[].a\\a:(T>T).a", "T");
        typed("?0/P:T.\\a:P.a/Q:T.\\b:Q.{}", "<P:T>(P>T)");
        typed("/P:[xT].\\a:P.?0a{y={}}", "<P:[xT]>(P>[])");
        typed("/P:T./Q:P./R:P.\\a:Q.\\b:R.?0ab", "<P:T><Q:P><R:P>(Q>(R>P))");
        typed("/P:T./Q:P.\\a:Q.\\b:P.?0ab", "<P:T><Q:P>(Q>(P>P))");
        typed("/P:(T>[])./Q:(T>[xT]).\\a:P.\\b:Q.?1ab", "<P:(T>[])><Q:(T>[xT])>(P>(Q>(T>[])))");
    }

    private static void brokenRules() {
        broken("({}{})", 0);
        broken("\\a:T.(aa)", 5);
        broken("(\\a:[xT].a{})", 0);
        broken(".x{}", 0);
        broken(".y{x={}}", 0);
        broken(".x\\a:T.a", 0);
        broken("@{}T", 0);
        broken("@/P:[].{}T", 0);
        broken("@\\a:T.aT", 0);
        broken("@/P:[xT].{}[]", 0);
        broken("@@/P:T.(\\a:T./Q:P.a{})[]T", 0);
        broken("/P:T.\\a:P.(aa)", 10);
        broken("/P:T.\\a:P..xa", 10);
        broken("/P:T.(\\a:P.a{})", 5);
        broken("/P:T.\\a:T.(\\b:P.ba)", 10);
        // Several rules are broken: from the left, each after its parts.
        broken("(.x{}.y{})", 1);
        broken("({}.y{})", 3);
        broken("(\\a:[xT].a.y{})", 10);
        broken("(\\a:(T>T).a(\\a:T.a.x{}))", 18);
        broken("{x={},y=.x{},z=({}{})}", 8);
        broken("(({}{})({}{}))", 1);
        broken(".x@.x{}T", 3);
        broken("?0{}.x{}", 4);
        broken("?0.x{}({}{})", 2);
        broken("\\a:T.({}(aa))", 8);
        broken(Checks.times(".x", 23) + "{}", 44);
        broken(Checks.times("@", 23) + "{}" + Checks.times("T", 23), 22);
    }

    private static void tooLargeTypes() {
        String six = "[x[x[x[x[xT]]]]]";
        String seven = "[x" + six + "]";
        String eight = "[x" + seven + "]";
        typed("\\a:" + seven + ".a", "(" + seven + ">" + seven + ")");
        broken("\\a:" + eight + ".a", 0);
        broken("({}\\a:" + eight + ".a)", 3);
        broken(".x{x=\\a:" + eight + ".a}", 5);
        typed("\\a:" + seven + ".{x=a}", "(" + seven + ">[x" + seven + "])");
        broken("\\a:" + seven + ".{x=a,y={}}", 0);
        broken("\\a:" + seven + ".{x=a,y=a,z=a}", 23);
        typed("/P:" + seven + ".\\a:" + six + ".{}", "<P:" + seven + ">(" + six + ">[])");
        broken("/P:" + seven + ".\\a:" + seven + ".{}", 0);
        typed("@/P:T.\\a:P.{x=a}" + seven, "(" + seven + ">[x" + seven + "])");
        broken("@/P:T.\\a:P.{x=a}" + eight, 0);
        typed("?0\\a:[x" + seven + "].{}\\a:[y" + six + "].{}", "([x" + seven + ",y" + six + "]>[])");
        broken("?0\\a:[x" + seven + "].{}\\a:[y" + seven + "].{}", 0);
    }

    private static void slotsOfTypeOf() {
        BoundedSchemes s = Checks.withTerm("{x={}}");
        for (int slot : new int[] {-1, 4, Integer.MIN_VALUE, Integer.MAX_VALUE}) {
            checks.due("typeOf(" + slot + ")", s.typeOf(slot), BAD);
        }
        for (int slot = 0; slot < 4; slot++) {
            checks.due("typeOf(" + slot + ")", s.typeOf(slot), NONE);
            checks.due("slot " + slot, Checks.written(s, slot), "[x[]]");
        }
        BoundedSchemes t = Checks.withTerm(".x{}");
        checks.due("BAD before a broken rule", t.typeOf(4), BAD);
    }

    private static void fitting() {
        BoundedSchemes s = Checks.withTypes("[x[]]", "T", "[xT,yT]");
        checks.due("fits without a term", s.fits(1), false);
        Checks.readTerm(s, "{x={}}");
        checks.due("fits its type", s.fits(0), true);
        checks.due("fits T", s.fits(1), true);
        checks.due("fits a smaller type", s.fits(2), false);
        checks.due("fits an empty slot", s.fits(3), false);
        checks.due("fits(-1)", s.fits(-1), false);
        checks.due("fits(4)", s.fits(4), false);
        Checks.readTerm(s, ".y{x={}}");
        checks.due("fits without a type", s.fits(1), false);
        BoundedSchemes t = Checks.withTypes("<Q:T>(Q>T)", "<Q:[]>(Q>Q)");
        Checks.readTerm(t, "/P:T.\\a:P.a");
        checks.due("fits a scheme above", t.fits(0), true);
        checks.due("fits a scheme with another bound", t.fits(1), false);
    }
}
