/** Promises 5 to 11: below, same, join, meet, size, write, charAt. */
public final class TypeOrderTest {
    private static final int NONE = BoundedSchemes.NONE;
    private static final int BAD = BoundedSchemes.BAD;
    private static final int FULL = BoundedSchemes.FULL;
    private static final String NO_MEET = "none";
    private static final Checks checks = new Checks();

    public static void main(String[] args) {
        belowPairs();
        belowOpenVariables();
        wrongSlots();
        samePairs();
        joinsAndMeets();
        joinsAndMeetsOfSchemes();
        joinIntoItsOwnSlots();
        fullAndNone();
        sizes();
        writing();
        checks.end();
    }

    private static void below(String low, String high, boolean there, boolean back) {
        BoundedSchemes s = Checks.withTypes(low, high);
        checks.due(low + " below " + high, s.below(0, 1), there ? 1 : 0);
        checks.due(high + " below " + low, s.below(1, 0), back ? 1 : 0);
        checks.due(low + " below itself", s.below(0, 0), 1);
    }

    private static void belowPairs() {
        below("T", "T", true, true);
        below("[]", "T", true, false);
        below("(T>T)", "T", true, false);
        below("<P:T>P", "T", true, false);
        below("[]", "(T>T)", false, false);
        below("[]", "<P:T>P", false, false);
        below("(T>T)", "<P:T>T", false, false);
        below("[xT]", "[]", true, false);
        below("[xT,yT]", "[yT]", true, false);
        below("[xT]", "[yT]", false, false);
        below("[x[],zT]", "[xT,zT]", true, false);
        below("[x[],zT]", "[xT,z[]]", false, false);
        below("(T>[])", "([]>T)", true, false);
        below("([]>[])", "(T>T)", false, false);
        below("((T>[])>T)", "(([]>T)>T)", false, true);
        below("(((T>T)>T)>T)", "((([]>T)>T)>T)", true, false);
    }

    private static void belowOpenVariables() {
        below("<P:T>P", "<P:[]>P", false, false);
        below("<P:[]>P", "<P:[]>[]", true, false);
        below("<P:T>P", "<P:T>[]", false, false);
        below("<P:T>T", "<P:T>P", false, true);
        below("<P:T><Q:P>Q", "<P:T><Q:P>P", true, false);
        below("<P:T><Q:T>Q", "<P:T><Q:T>P", false, false);
        below("<P:[xT]><Q:P>(T>Q)", "<Q:[xT]><P:Q>([]>[xT])", true, false);
        below("<P:T><Q:P><R:Q>R", "<P:T><Q:P><R:Q>P", true, false);
        below("<P:(T>T)>P", "<P:(T>T)>([]>T)", true, false);
        below("<P:<Q:T>Q>P", "<P:<R:T>R><Q:T>T", true, false);
        below("<P:T><P:P>P", "<P:T><Q:P>Q", true, true);
        below("<P:T>(<P:P>P>P)", "<Q:T>(<R:Q>R>Q)", true, true);
        below("<P:<Q:T>(Q>Q)><R:T>P", "<P:<Q:T>(Q>Q)><R:T><Q:T>(Q>T)", true, false);
        below("<P:T><Q:<R:P>(R>P)>[xQ]", "<P:T><Q:<R:P>(R>P)>[x<S:P>(S>T)]", true, false);
        below("<P:[]>(P>P)", "<P:[]>(P>[])", true, false);
        below("<P:[]>([]>P)", "<P:[]>(P>P)", true, false);
    }

    private static void wrongSlots() {
        BoundedSchemes s = Checks.withTypes("T", "[]");
        int[] wrong = {-1, 2, 3, 4, Integer.MAX_VALUE, Integer.MIN_VALUE};
        for (int slot : wrong) {
            checks.due("below(0, " + slot + ")", s.below(0, slot), BAD);
            checks.due("below(" + slot + ", 0)", s.below(slot, 0), BAD);
            checks.due("same(0, " + slot + ")", s.same(0, slot), BAD);
            checks.due("same(" + slot + ", 0)", s.same(slot, 0), BAD);
            checks.due("join(0, " + slot + ", 0)", s.join(0, slot, 0), BAD);
            checks.due("join(" + slot + ", 0, 0)", s.join(slot, 0, 0), BAD);
            checks.due("meet(0, " + slot + ", 0)", s.meet(0, slot, 0), BAD);
            checks.due("meet(" + slot + ", 0, 0)", s.meet(slot, 0, 0), BAD);
            checks.due("size(" + slot + ")", s.size(slot), 0);
            checks.due("write(" + slot + ")", s.write(slot), BAD);
        }
        for (int slot : new int[] {-1, 4, Integer.MAX_VALUE, Integer.MIN_VALUE}) {
            checks.due("join(0, 1, " + slot + ")", s.join(0, 1, slot), BAD);
            checks.due("meet(0, 1, " + slot + ")", s.meet(0, 1, slot), BAD);
        }
        checks.due("slot 0 after refused calls", Checks.written(s, 0), "T");
        checks.due("slot 1 after refused calls", Checks.written(s, 1), "[]");
    }

    private static void same(String left, String right, boolean want) {
        BoundedSchemes s = Checks.withTypes(left, right);
        checks.due(left + " same " + right, s.same(0, 1), want ? 1 : 0);
        checks.due(right + " same " + left, s.same(1, 0), want ? 1 : 0);
    }

    private static void samePairs() {
        same("T", "T", true);
        same("T", "[]", false);
        same("[xT]", "[yT]", false);
        same("[xT]", "[xT,yT]", false);
        same("(T>[])", "([]>T)", false);
        same("<P:T>P", "<Q:T>Q", true);
        same("<P:T>P", "<P:[]>P", false);
        same("<P:T>P", "<P:T>T", false);
        same("<P:T><Q:T>(P>Q)", "<Q:T><P:T>(Q>P)", true);
        same("<P:T><Q:T>(P>Q)", "<P:T><Q:T>(Q>P)", false);
        same("<P:T><P:T>P", "<P:T><Q:T>Q", true);
        same("<P:T><P:T>P", "<P:T><Q:T>P", false);
        same("<P:T><P:P>P", "<R:T><S:R>S", true);
        same("(<P:T>P><P:T>P)", "(<Q:T>Q><R:T>R)", true);
        same("<P:<P:T>P>P", "<Q:<R:T>R>Q", true);
    }

    private static void both(String left, String right, String join, String meet) {
        BoundedSchemes s = Checks.withTypes(left, right);
        bound("join", left, right, s.join(0, 1, 2), Checks.written(s, 2), join);
        bound("join", right, left, s.join(1, 0, 2), Checks.written(s, 2), join);
        BoundedSchemes t = Checks.withTypes(left, right);
        for (int turn = 0; turn < 2; turn++) {
            int size = t.meet(turn, 1 - turn, 3);
            String call = "meet of " + left + " and " + right + ", turn " + turn;
            if (meet.equals(NO_MEET)) {
                checks.due(call, size, 0);
                checks.due("size after no " + call, t.size(3), 0);
            } else {
                bound("meet", left, right, size, Checks.written(t, 3), meet);
            }
        }
    }

    private static void bound(String what, String left, String right, int size, String got, String want) {
        String call = what + " of " + left + " and " + right;
        checks.due(call, got, want);
        checks.due("size of " + call, size, Oracle.faultOf(want, true) == NONE
            ? Checks.withTypes(want).size(0) : NONE);
    }

    private static void joinsAndMeets() {
        both("T", "T", "T", "T");
        both("T", "[]", "T", "[]");
        both("[xT]", "[y[]]", "[]", "[xT,y[]]");
        both("[xT,y[]]", "[yT,z[]]", "[yT]", "[xT,y[],z[]]");
        both("[]", "(T>T)", "T", NO_MEET);
        both("(T>T)", "<P:T>T", "T", NO_MEET);
        both("[x[]]", "[x(T>T)]", "[xT]", NO_MEET);
        both("([xT]>T)", "([yT]>T)", "([xT,yT]>T)", "([]>T)");
        both("([]>T)", "((T>T)>T)", "T", "(T>T)");
        both("(T>[xT])", "(T>[yT])", "(T>[])", "(T>[xT,yT])");
        both("(T>[])", "(T>(T>T))", "(T>T)", NO_MEET);
        both("(([]>T)>T)", "(((T>T)>T)>T)", "((T>T)>T)", "(T>T)");
        both("[z[xT]]", "[z[yT]]", "[z[]]", "[z[xT,yT]]");
        both("[xT,y[]]", "[xT,y(T>T)]", "[xT,yT]", NO_MEET);
        both("[yT,z[]]", "[yT,z(T>T)]", "[yT,zT]", NO_MEET);
        both("[x[],y[],z[]]", "[x[],y(T>T),z(T>T)]", "[x[],yT,zT]", NO_MEET);
        both("[x[xT],y[yT]]", "[x[yT],y[yT],zT]", "[x[],y[yT]]", "[x[xT,yT],y[yT],zT]");
    }

    private static void joinsAndMeetsOfSchemes() {
        both("<P:T>P", "<Q:T>Q", "<P:T>P", "<P:T>P");
        both("<P:T>P", "<P:[]>P", "T", NO_MEET);
        both("<P:T>P", "<P:T>[]", "<P:T>T", NO_MEET);
        both("<P:[xT]>P", "<P:[xT]>[yT]", "<P:[xT]>[]", NO_MEET);
        both("<P:[xT]>P", "<Q:[xT]>[]", "<P:[xT]>[]", "<P:[xT]>P");
        both("<P:T><Q:P><R:P>Q", "<P:T><Q:P><R:P>R", "<P:T><Q:P><R:P>P", NO_MEET);
        both("<P:T><Q:P>(Q>T)", "<P:T><Q:P>(P>T)", "<P:T><Q:P>(Q>T)", "<P:T><Q:P>(P>T)");
        both("<P:T><Q:T>(P>T)", "<P:T><Q:T>(Q>T)", "<P:T><Q:T>T", "<P:T><Q:T>(T>T)");
        both("<P:[xT]><Q:[yT]>P", "<P:[xT]><Q:[yT]>Q", "<P:[xT]><Q:[yT]>[]", NO_MEET);
        both("<P:<Q:T>Q>[xP]", "<P:<Q:T>Q>[x<S:T>S,yT]", "<P:<P:T>P>[x<Q:T>Q]", "<P:<P:T>P>[xP,yT]");
        both("<P:T>[xP]", "<P:T>[yP]", "<P:T>[]", "<P:T>[xP,yP]");
        both("<P:<Q:T>(Q>Q)><R:T>P", "<P:<Q:T>(Q>Q)><R:T><Q:T>(Q>[])",
            "<P:<P:T>(P>P)><Q:T><R:T>(R>T)", NO_MEET);
        both("<P:<Q:T>[xQ]><R:T>[xP]", "<P:<Q:T>[xQ]><R:T>[x<S:T>[yS]]",
            "<P:<P:T>[xP]><Q:T>[x<R:T>[]]", NO_MEET);
    }

    private static void joinIntoItsOwnSlots() {
        BoundedSchemes s = Checks.withTypes("[xT,y[]]", "[yT,z[]]");
        checks.due("join(0, 1, 0)", s.join(0, 1, 0), 2);
        checks.due("slot 0", Checks.written(s, 0), "[yT]");
        checks.due("slot 1 stays", Checks.written(s, 1), "[yT,z[]]");
        checks.due("meet(0, 1, 1)", s.meet(0, 1, 1), 3);
        checks.due("slot 1", Checks.written(s, 1), "[yT,z[]]");
        checks.due("join(1, 1, 3)", s.join(1, 1, 3), 3);
        checks.due("slot 3", Checks.written(s, 3), "[yT,z[]]");
        BoundedSchemes t = Checks.withTypes("([xT]>[xT])", "([yT]>[yT])");
        checks.due("meet(1, 0, 1)", t.meet(1, 0, 1), 5);
        checks.due("slot 1 of the meet", Checks.written(t, 1), "([]>[xT,yT])");
    }

    private static void fullAndNone() {
        String deep = "[x[x[x[x[xT]]]]]";
        BoundedSchemes s = Checks.withTypes("[x" + deep + "]", "[y" + deep + "]", "(T>T)");
        checks.due("a meet of size 13", s.meet(0, 1, 3), 13);
        BoundedSchemes t = Checks.withTypes("[x[x" + deep + "]]", "[yT,z[x" + deep + "]]", "(T>T)");
        checks.due("a meet of size 16", Checks.withTypes("[x[x" + deep + "]]", "[z[x" + deep + "]]")
            .meet(0, 1, 3), 15);
        checks.due("a meet of size 16 with y", t.meet(0, 1, 3), 16);
        checks.due("written", Checks.written(t, 3), "[x[x" + deep + "],yT,z[x" + deep + "]]");
        BoundedSchemes u = Checks.withTypes("[x[x[x" + deep + "]]]", "[yT,z[x" + deep + "]]", "(T>T)");
        checks.due("a meet of size 17", u.meet(0, 1, 2), FULL);
        checks.due("the slot after FULL", Checks.written(u, 2), "(T>T)");
        checks.due("a meet that is none", u.meet(0, 2, 1), 0);
        checks.due("the slot after none", u.size(1), 9);
        checks.due("a meet that is none, for no slot", u.meet(0, 2, 4), BAD);
        BoundedSchemes v = Checks.withTypes("([x[x" + deep + "]]>T)", "([y[x" + deep + "]]>T)", "[]");
        checks.due("a join of size 17", v.join(0, 1, 2), FULL);
        checks.due("the slot after a full join", Checks.written(v, 2), "[]");
        checks.due("a full join for no slot", v.join(0, 1, 4), BAD);
        BoundedSchemes w = Checks.withTypes("([x[x" + deep + "]]>T)", "([y" + deep + "]>T)");
        checks.due("a join of size 16", w.join(0, 1, 1), 16);
        checks.due("a join's size", w.size(1), 16);
    }

    private static void sizes() {
        checks.due("size of T", Checks.withTypes("T").size(0), 1);
        checks.due("size of []", Checks.withTypes("[]").size(0), 1);
        checks.due("size of a function", Checks.withTypes("(T>[])").size(0), 3);
        checks.due("size of a scheme", Checks.withTypes("<P:[xT]>(P>P)").size(0), 6);
        checks.due("size of a record", Checks.withTypes("[xT,y[],z(T>T)]").size(0), 6);
        checks.due("size of a large one",
            Checks.withTypes("<P:T><P:T><P:T><P:T><P:T><P:T><P:T>[]").size(0), 15);
    }

    private static void writes(String type, String want) {
        BoundedSchemes s = Checks.withTypes(type);
        checks.due("write of " + type, s.write(0), want.length());
        checks.due("the page of " + type, Checks.page(s), want);
        checks.due("the page's end", s.charAt(want.length()), NONE);
        checks.due("before the page", s.charAt(-1), NONE);
        checks.due("far before the page", s.charAt(Integer.MIN_VALUE), NONE);
        checks.due("far behind the page", s.charAt(Integer.MAX_VALUE), NONE);
    }

    private static void writing() {
        writes("T", "T");
        writes("[]", "[]");
        writes("(T>(T>T))", "(T>(T>T))");
        writes("[xT,z[y[]]]", "[xT,z[y[]]]");
        writes("<S:T>S", "<P:T>P");
        writes("<Q:<Q:T>Q>Q", "<P:<P:T>P>P");
        writes("(<Q:T>Q><R:T>R)", "(<P:T>P><P:T>P)");
        writes("<S:T><R:S>(S>R)", "<P:T><Q:P>(P>Q)");
        writes("<P:T><P:P>P", "<P:T><Q:P>Q");
        writes("<P:T><Q:<R:T>R>[x<R:T>R]", "<P:T><Q:<Q:T>Q>[x<R:T>R]");
        writes("<P:T><P:P><P:P><P:P><P:P><P:P><P:P>P", "<P:T><Q:P><R:Q><S:R><T:S><U:T><V:U>V");
        writes("<P:T><P:T><P:T><P:T><P:T>[xP,yT]", "<P:T><Q:T><R:T><S:T><T:T>[xT,yT]");
        BoundedSchemes s = Checks.withTypes("(T>T)", "[]");
        s.write(0);
        s.write(1);
        checks.due("the page after a shorter one", Checks.page(s), "[]");
        checks.due("nothing of the longer one", s.charAt(2), NONE);
        checks.due("a refused write", s.write(2), BAD);
        checks.due("the page after a refused write", Checks.page(s), "[]");
        s.meet(0, 1, 0);
        s.join(0, 1, 0);
        checks.due("the page after a join", Checks.page(s), "[]");
    }
}
