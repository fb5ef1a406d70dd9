/** Promises 14 to 17: start, step, steps, value. */
public final class RunningTest {
    private static final int NONE = BoundedSchemes.NONE;
    private static final int BAD = BoundedSchemes.BAD;
    private static final int FULL = BoundedSchemes.FULL;
    private static final Checks checks = new Checks();

    public static void main(String[] args) {
        values();
        stepCounts();
        scopesOfNames();
        oneStepAtATime();
        wrongCalls();
        startingAgain();
        aLongRun();
        longerRuns();
        afterARunThatStops();
        aLargeValue();
        longValues();
        checks.end();
    }

    /** Runs a term to its value, which must come after just so many steps. */
    private static void comes(String term, int steps, String value) {
        BoundedSchemes s = Checks.withTerm(term);
        checks.due("start " + term, s.start(), true);
        int made = 0;
        while (made < steps) {
            checks.due("value of " + term + " after " + made, s.value(), NONE);
            checks.due("step of " + term + " after " + made, s.step(1), 1);
            made++;
            checks.due("steps of " + term, s.steps(), made);
        }
        checks.due("length of the value of " + term, s.value(), value.length());
        checks.due("value of " + term, Checks.page(s), value);
        checks.due("step behind the value of " + term, s.step(20), 0);
        checks.due("steps behind the value of " + term, s.steps(), steps);
        BoundedSchemes t = Checks.withTerm(term);
        t.start();
        checks.due("all steps at once of " + term, t.step(20), Math.min(20, steps));
    }

    private static void values() {
        comes("{}", 0, "{}");
        comes("\\a:T.a", 0, "f");
        comes("/P:T.?0{}{}", 0, "g");
        comes("{x=\\a:T.a,y=/P:T.{},z={y={}}}", 0, "{x=f,y=g,z={y={}}}");
        comes("\\a:T.(\\b:T.ba)", 0, "f");
    }

    private static void stepCounts() {
        comes("?0{x={}}{y={}}", 1, "{x={}}");
        comes("?1{x={}}{y={}}", 1, "{y={}}");
        comes("?1{}?0{x={}}{}", 2, "{x={}}");
        comes("?0{}?0{}{}", 1, "{}");
        comes("(\\a:T.a{})", 1, "{}");
        comes("(\\a:T.{x=a,y=a}?0{}{})", 2, "{x={},y={}}");
        comes("(?0\\a:T.a\\a:T.{}{z={}})", 2, "{z={}}");
        comes("@/P:T.\\a:P.aT", 1, "f");
        comes("@?0/P:T.{}/P:T.{}T", 2, "{}");
        comes("(@/P:T.\\a:P.a[]{})", 2, "{}");
        comes(".x{x={},y=?0{}{}}", 2, "{}");
        comes(".y{x=?0{}{},y=?1{}{x={}}}", 3, "{x={}}");
        comes("{x=?0{}{},z=(\\a:T.a{})}", 2, "{x={},z={}}");
        comes(".x.y{y={x=\\a:T.a}}", 2, "f");
        comes("(\\a:T.?0aa?0{}{})", 3, "{}");
        comes("(\\a:([]>T).(a{})\\b:[].{y=b})", 2, "{y={}}");
    }

    private static void scopesOfNames() {
        comes("((\\a:T.\\b:T.a{x={}}){y={}})", 2, "{x={}}");
        comes("((\\a:T.\\a:T.a{x={}}){y={}})", 2, "{y={}}");
        comes("(\\a:T.(\\a:T.{x=a}{y=a}){})", 2, "{x={y={}}}");
        comes("(\\a:T.{x=(\\a:T.a{z={}}),y=a}{})", 2, "{x={z={}},y={}}");
        comes("((\\a:(T>T).\\b:T.(ab)\\b:T.{x=b}){y={}})", 3, "{x={y={}}}");
        // The function that is handed in keeps the a of the place where it was made.
        comes("(\\a:T.(\\b:(T>T).(\\a:T.(ba){})\\c:T.{x=a,y=c}){z={}})", 4, "{x={z={}},y={}}");
        comes("@/P:T.(\\a:T./Q:P.a{})T", 2, "g");
        comes("@@/P:T.(\\a:T./Q:P.a{})T[]", 3, "{}");
    }

    private static void oneStepAtATime() {
        BoundedSchemes s = Checks.withTerm("{x=?0{}{},y=?1{}{},z=.x{x={}}}");
        s.start();
        checks.due("two steps", s.step(2), 2);
        checks.due("no value yet", s.value(), NONE);
        checks.due("the page is still empty", s.charAt(0), NONE);
        checks.due("more than there are", s.step(20), 1);
        checks.due("steps", s.steps(), 3);
        checks.due("the value", s.value(), 16);
        checks.due("its text", Checks.page(s), "{x={},y={},z={}}");
    }

    private static void wrongCalls() {
        BoundedSchemes s = Checks.withTerm("?0{}{}");
        checks.due("step before a run", s.step(1), BAD);
        s.start();
        for (int n : new int[] {0, -1, 21, Integer.MIN_VALUE, Integer.MAX_VALUE}) {
            checks.due("step(" + n + ")", s.step(n), BAD);
        }
        checks.due("steps after refused ones", s.steps(), 0);
        checks.due("step(20)", s.step(20), 1);
        checks.due("step(0) at the value", s.step(0), BAD);
        checks.due("step(1) at the value", s.step(1), 0);
    }

    private static void startingAgain() {
        BoundedSchemes s = Checks.withTerm("?0{}?0{}{}");
        s.start();
        s.step(1);
        checks.due("start again", s.start(), true);
        checks.due("steps then", s.steps(), 0);
        checks.due("value then", s.value(), NONE);
        s.step(20);
        Checks.type(s, "{x");
        checks.due("a type in between", s.readTerm(), 2);
        checks.due("the value is still there", s.value(), 2);
        checks.due("reading a type leaves the run", Checks.readType(s, "[xT]", 0), NONE);
        checks.due("steps after it", s.steps(), 1);
        checks.due("a new term ends it", Checks.readTerm(s, "{x={}}"), NONE);
        checks.due("steps of no run", s.steps(), NONE);
        s.start();
        checks.due("the new term's value", s.value(), 6);
    }

    private static void aLongRun() {
        String calls = Checks.times("(b", 7) + "b" + Checks.times(")", 7);
        String choices = Checks.times("?0", 7) + Checks.times("a", 8);
        BoundedSchemes s = Checks.withTerm("(\\b:(T>T)." + calls + "\\a:T." + choices + ")");
        s.start();
        checks.due("twenty steps", s.step(20), 20);
        checks.due("nineteen more", s.step(19), 19);
        checks.due("no value yet", s.value(), NONE);
        checks.due("the last ones", s.step(20), 18);
        checks.due("all of them", s.steps(), 57);
        checks.due("the value", s.value(), 1);
        checks.due("its text", Checks.page(s), "f");
        checks.due("none is left", s.step(20), 0);
    }

    /** A function that calls its argument so many times, handed to itself: 60 steps or more. */
    private static void longerRuns() {
        for (int times = 1; times <= 6; times++) {
            for (int choices = 0; choices <= 5; choices++) {
                String last = Checks.times("?0", choices) + Checks.times("d", choices + 1);
                String calls = Checks.times("(a", times) + "a" + Checks.times(")", times);
                String term = "(\\c:((T>T)>T).(c\\d:T.(c\\d:T." + last + "))\\a:(T>T)." + calls + ")";
                int inner = 1 + times * (1 + choices);
                if (term.length() <= 60) {
                    runsFor(term, 2 + times * (1 + inner));
                }
            }
        }
    }

    private static void runsFor(String term, int steps) {
        BoundedSchemes s = Checks.withTerm(term);
        s.start();
        int most = Math.min(steps, 60);
        for (int made = 0; made < most; made += 7) {
            checks.due("no value of " + term + " after " + made, s.value(), NONE);
            checks.due("seven steps of " + term, s.step(7), Math.min(7, most - made));
        }
        checks.due("no more steps of " + term, s.step(20), 0);
        checks.due("steps of " + term, s.steps(), most);
        checks.due("the value of " + term, s.value(), steps <= 60 ? 1 : NONE);
    }

    /** Nothing of a run that stops in the midst of a term stays in the next one. */
    private static void afterARunThatStops() {
        BoundedSchemes s = Checks.withTerm(Checks.MORE_THAN_SIXTY_STEPS);
        s.start();
        s.step(20);
        checks.due("a new term", Checks.readTerm(s, "?0{x={}}{}"), NONE);
        s.start();
        checks.due("its step", s.step(20), 1);
        checks.due("its value", s.value(), 6);
        checks.due("its text", Checks.page(s), "{x={}}");
    }

    private static void aLargeValue() {
        String calls = Checks.times("(b", 10) + "{}" + Checks.times(")", 10);
        BoundedSchemes s = Checks.withTerm("(\\b:(T>T)." + calls + "\\a:T.{x=a,y=a})");
        s.write(0);
        s.start();
        checks.due("eleven steps", s.step(20), 11);
        checks.due("a value of many thousands", s.value(), FULL);
        checks.due("the page stays", s.charAt(0), NONE);
        checks.due("and the run", s.steps(), 11);
        BoundedSchemes t = Checks.withTypes("[xT]");
        t.write(0);
        Checks.readTerm(t, "(\\b:(T>T)." + calls + "\\a:T.{x=a,y=a})");
        t.start();
        t.step(20);
        checks.due("FULL again", t.value(), FULL);
        checks.due("a page that was written stays", Checks.page(t), "[xT]");
    }

    private static void longValue(String term, int steps, int length) {
        BoundedSchemes s = Checks.withTerm(term);
        s.start();
        checks.due("steps to " + length, s.step(20), steps);
        checks.due("a value of " + length, s.value(), length <= 100 ? length : FULL);
        checks.due("its last character", s.charAt(length - 1), length <= 100 ? '}' : NONE);
        checks.due("behind it", s.charAt(length), NONE);
    }

    private static void longValues() {
        longValue("(\\b:(T>T)." + Checks.times("(b", 10) + "{}" + Checks.times(")", 10)
            + "\\a:T.{x=a,y={}})", 11, 92);
        longValue("(\\b:(T>T)." + Checks.times("(b", 11) + "b" + Checks.times(")", 11)
            + "\\a:T.{x=a,y={}})", 12, 100);
        longValue("(\\a:T.{x=a,y=a,z={}}(\\a:T.{x=a,y=a,z={}}{x={},y={},z={}}))", 2, 100);
        longValue("(\\a:T.{x=a,y=a}(\\a:T.{x=a,y=a}{x={},y={},z={x={}}}))", 2, 101);
        longValue("(\\a:T.{x=a,y=a,z=a}(\\a:T.{x=a,y=a,z={}}{x={},y={}}))", 2, 112);
    }
}
