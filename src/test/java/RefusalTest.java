import java.util.function.Supplier;
import java.util.function.ToIntFunction;

/**
 * "A call that is refused changes nothing (but see the two that read on the text)": each way to be
 * refused, on objects that have much to lose, and then all that later calls tell.
 */
public final class RefusalTest {
    private static final int NONE = BoundedSchemes.NONE;
    private static final int BAD = BoundedSchemes.BAD;
    private static final int FULL = BoundedSchemes.FULL;
    private static final int[] NO_SLOTS = {-1, 4, 5, 256, Integer.MIN_VALUE, Integer.MAX_VALUE};
    private static final String SIX = "[x[x[x[x[xT]]]]]";
    private static final Checks checks = new Checks();

    public static void main(String[] args) {
        refusedTyping();
        refusedReadType();
        refusedReadTerm();
        refusedOrder();
        refusedJoinAndMeet();
        fullJoinAndMeet();
        noMeet();
        refusedLooks();
        refusedTypeOf();
        refusedFits();
        refusedStart();
        refusedSteps();
        refusedValue();
        callsThatOnlyAnswer();
        checks.end();
    }

    /** Three types, a run after one of two steps, a written page, and a text that lacks its end. */
    private static BoundedSchemes rich() {
        BoundedSchemes s = richWithoutText();
        Checks.type(s, "[zT");
        return s;
    }

    private static BoundedSchemes richWithoutText() {
        BoundedSchemes s = Checks.withTypes("[xT,y[]]", "(T>[])", "<P:[]>P");
        Checks.readTerm(s, "{x=?0{}{},y=?1{}\\a:T.a}");
        s.start();
        s.step(1);
        s.write(0);
        return s;
    }

    private static BoundedSchemes withoutTerm() {
        BoundedSchemes s = Checks.withTypes("[xT,y[]]", "T");
        s.write(0);
        Checks.type(s, "[zT");
        return s;
    }

    private static BoundedSchemes withTermWithoutType() {
        BoundedSchemes s = Checks.withTypes("[xT,y[]]", "T");
        Checks.readTerm(s, "{x={},y=.x{}}");
        s.write(0);
        Checks.type(s, "[zT");
        return s;
    }

    private static BoundedSchemes withTermWithoutRun() {
        BoundedSchemes s = Checks.withTypes("[xT,y[]]", "T");
        Checks.readTerm(s, "?0{x={}}{}");
        s.write(0);
        Checks.type(s, "[zT");
        return s;
    }

    private static void refused(String call, Supplier<BoundedSchemes> maker,
        ToIntFunction<BoundedSchemes> made, int want) {
        BoundedSchemes s = maker.get();
        checks.due(call, made.applyAsInt(s), want);
        checks.due("what is seen after " + call, View.of(s, "]"), View.of(maker.get(), "]"));
    }

    private static void refusedTyping() {
        for (int c : new int[] {0, 10, 31, 127, 128, 255, 256 + 'T', 0x2029, 0xffff}) {
            refused("type " + c, RefusalTest::rich, s -> s.type((char) c) ? 1 : 0, 0);
        }
        // The text is full: sixty characters that are a term, so that one more, or less, is seen.
        for (char c : new char[] {32, ')', 'T', 126, 127}) {
            BoundedSchemes s = new BoundedSchemes();
            Checks.type(s, Checks.SIXTY_CHARACTERS);
            checks.due("the 61st character " + (int) c, s.type(c), false);
            checks.due("the 61st character again", s.type(c), false);
            checks.due("what a full text is", s.readTerm(), NONE);
            checks.due("all is seen of it", View.of(s, "[]"),
                View.of(Checks.withTerm(Checks.SIXTY_CHARACTERS), "[]"));
        }
    }

    private static void refusedReadType() {
        for (int slot : NO_SLOTS) {
            refused("readType(" + slot + ")", RefusalTest::rich, s -> s.readType(slot), BAD);
        }
        String seventeen = Checks.times("[x", 16) + "T" + Checks.times("]", 16);
        for (int slot = 0; slot < 4; slot++) {
            emptied("readType of )", ")", slot, 0);
            emptied("readType of (T>T", "(T>T", slot, 4);
            emptied("readType of T ", "T ", slot, 1);
            emptied("readType of nothing", "", slot, 0);
            emptied("readType of P", "P", slot, BAD);
            emptied("readType of <P:P>P", "<P:P>P", slot, BAD);
            emptied("readType of a size of 17", seventeen, slot, BAD);
        }
    }

    /** Of the text nothing stays, of all else everything. */
    private static void emptied(String call, String text, int slot, int want) {
        BoundedSchemes s = richWithoutText();
        checks.due(call, Checks.readType(s, text, slot), want);
        checks.due("what is seen after " + call, View.of(s, "[yT]"), View.of(richWithoutText(), "[yT]"));
    }

    private static void emptiedByTerm(String text, int want) {
        BoundedSchemes s = richWithoutText();
        checks.due("readTerm of " + text, Checks.readTerm(s, text), want);
        checks.due("what is seen after readTerm of " + text,
            View.of(s, "[yT]"), View.of(richWithoutText(), "[yT]"));
    }

    private static void refusedReadTerm() {
        String seventeen = Checks.times("[x", 16) + "T" + Checks.times("]", 16);
        emptiedByTerm("", 0);
        emptiedByTerm(")", 0);
        emptiedByTerm("{x={}", 5);
        emptiedByTerm("{x={}}}", 6);
        emptiedByTerm("?0{x={}}", 8);
        emptiedByTerm("a", BAD);
        emptiedByTerm("(\\a:T.aa)", BAD);
        emptiedByTerm("/P:P.{}", BAD);
        emptiedByTerm("{x={},y=\\a:Q.a}", BAD);
        emptiedByTerm("\\a:" + seventeen + ".a", BAD);
    }

    private static void refusedOrder() {
        for (int slot : new int[] {-1, 3, 4, Integer.MIN_VALUE, Integer.MAX_VALUE}) {
            refused("below(0, " + slot + ")", RefusalTest::rich, s -> s.below(0, slot), BAD);
            refused("below(" + slot + ", 0)", RefusalTest::rich, s -> s.below(slot, 0), BAD);
            refused("below(" + slot + ", " + slot + ")", RefusalTest::rich, s -> s.below(slot, slot), BAD);
            refused("same(0, " + slot + ")", RefusalTest::rich, s -> s.same(0, slot), BAD);
            refused("same(" + slot + ", 0)", RefusalTest::rich, s -> s.same(slot, 0), BAD);
            refused("same(" + slot + ", " + slot + ")", RefusalTest::rich, s -> s.same(slot, slot), BAD);
        }
    }

    private static void refusedJoinAndMeet() {
        for (int slot : new int[] {-1, 3, 4, Integer.MIN_VALUE, Integer.MAX_VALUE}) {
            for (int to = 0; to < 4; to++) {
                int k = to;
                refused("join(0, " + slot + ", " + k + ")", RefusalTest::rich, s -> s.join(0, slot, k), BAD);
                refused("join(" + slot + ", 0, " + k + ")", RefusalTest::rich, s -> s.join(slot, 0, k), BAD);
                refused("meet(0, " + slot + ", " + k + ")", RefusalTest::rich, s -> s.meet(0, slot, k), BAD);
                refused("meet(" + slot + ", 0, " + k + ")", RefusalTest::rich, s -> s.meet(slot, 0, k), BAD);
            }
        }
        for (int k : NO_SLOTS) {
            refused("join(0, 1, " + k + ")", RefusalTest::rich, s -> s.join(0, 1, k), BAD);
            refused("meet(0, 0, " + k + ")", RefusalTest::rich, s -> s.meet(0, 0, k), BAD);
            refused("a meet that is none for " + k, RefusalTest::rich, s -> s.meet(0, 1, k), BAD);
        }
    }

    private static BoundedSchemes withWideTypes() {
        BoundedSchemes s = Checks.withTypes("[x[x" + SIX + "]]", "[y[x" + SIX + "],zT]", "[zT]");
        s.write(2);
        Checks.type(s, "[zT");
        return s;
    }

    private static BoundedSchemes withWideFunctions() {
        BoundedSchemes s = Checks.withTypes("([x[x" + SIX + "]]>T)", "([y[x" + SIX + "]]>T)", "[zT]");
        s.write(2);
        Checks.type(s, "[zT");
        return s;
    }

    private static void fullJoinAndMeet() {
        BoundedSchemes wide = withWideTypes();
        checks.due("a meet of 16", wide.meet(0, 1, 3), 16);
        checks.due("its size", wide.size(3), 16);
        for (int to = 0; to < 4; to++) {
            int k = to;
            refused("a join of 17 for " + k, RefusalTest::withWideFunctions, s -> s.join(0, 1, k), FULL);
            refused("a join of 17, turned, for " + k, RefusalTest::withWideFunctions, s -> s.join(1, 0, k), FULL);
            refused("a meet of 17 for " + k, RefusalTest::withWiderTypes, s -> s.meet(0, 1, k), FULL);
            refused("a meet of 17, turned, for " + k, RefusalTest::withWiderTypes, s -> s.meet(1, 0, k), FULL);
        }
        refused("a full join for no slot", RefusalTest::withWideFunctions, s -> s.join(0, 1, 4), BAD);
        refused("a full meet for no slot", RefusalTest::withWiderTypes, s -> s.meet(0, 1, -1), BAD);
    }

    private static BoundedSchemes withWiderTypes() {
        BoundedSchemes s = Checks.withTypes("[x[x" + SIX + "]]", "[y[x" + SIX + "],z[xT]]", "[zT]");
        s.write(2);
        Checks.type(s, "[zT");
        return s;
    }

    private static void noMeet() {
        for (int to = 0; to < 4; to++) {
            int k = to;
            refused("a meet that is none for " + k, RefusalTest::rich, s -> s.meet(0, 1, k), 0);
            refused("a meet with a scheme for " + k, RefusalTest::rich, s -> s.meet(2, 1, k), 0);
        }
    }

    private static void refusedLooks() {
        for (int slot : new int[] {-1, 3, 4, Integer.MIN_VALUE, Integer.MAX_VALUE}) {
            refused("size(" + slot + ")", RefusalTest::rich, s -> s.size(slot), 0);
            refused("write(" + slot + ")", RefusalTest::rich, s -> s.write(slot), BAD);
        }
        for (int p : new int[] {-1, 8, 9, 60, 99, 100, 101, Integer.MIN_VALUE, Integer.MAX_VALUE}) {
            refused("charAt(" + p + ")", RefusalTest::rich, s -> s.charAt(p), NONE);
        }
    }

    private static void refusedTypeOf() {
        for (int slot : NO_SLOTS) {
            refused("typeOf(" + slot + ")", RefusalTest::rich, s -> s.typeOf(slot), BAD);
            refused("typeOf(" + slot + ") without a type", RefusalTest::withTermWithoutType,
                s -> s.typeOf(slot), BAD);
        }
        for (int to = 0; to < 4; to++) {
            int slot = to;
            refused("typeOf(" + slot + ") without a term", RefusalTest::withoutTerm, s -> s.typeOf(slot), BAD);
            refused("typeOf(" + slot + ") of a broken rule", RefusalTest::withTermWithoutType,
                s -> s.typeOf(slot), 8);
        }
    }

    private static void refusedFits() {
        for (int slot : new int[] {-1, 3, 4, Integer.MIN_VALUE, Integer.MAX_VALUE}) {
            refused("fits(" + slot + ")", RefusalTest::rich, s -> s.fits(slot) ? 1 : 0, 0);
        }
        refused("fits(1) without a term", RefusalTest::withoutTerm, s -> s.fits(1) ? 1 : 0, 0);
        refused("fits(1) without a type", RefusalTest::withTermWithoutType, s -> s.fits(1) ? 1 : 0, 0);
    }

    private static void refusedStart() {
        refused("start without a term", RefusalTest::withoutTerm, s -> s.start() ? 1 : 0, 0);
        refused("start without a type", RefusalTest::withTermWithoutType, s -> s.start() ? 1 : 0, 0);
    }

    private static void refusedSteps() {
        for (int n : new int[] {0, -1, 21, 22, 60, 61, Integer.MIN_VALUE, Integer.MAX_VALUE}) {
            refused("step(" + n + ")", RefusalTest::rich, s -> s.step(n), BAD);
        }
        for (int n : new int[] {0, 1, 20, 21}) {
            refused("step(" + n + ") without a term", RefusalTest::withoutTerm, s -> s.step(n), BAD);
            refused("step(" + n + ") without a type", RefusalTest::withTermWithoutType, s -> s.step(n), BAD);
            refused("step(" + n + ") without a run", RefusalTest::withTermWithoutRun, s -> s.step(n), BAD);
        }
        refused("steps without a term", RefusalTest::withoutTerm, BoundedSchemes::steps, NONE);
        refused("steps without a type", RefusalTest::withTermWithoutType, BoundedSchemes::steps, NONE);
        refused("steps without a run", RefusalTest::withTermWithoutRun, BoundedSchemes::steps, NONE);
    }

    /** A run that has come to a value of 101 characters. */
    private static BoundedSchemes withLongValue() {
        BoundedSchemes s = Checks.withTypes("[xT,y[]]");
        s.write(0);
        Checks.readTerm(s, "(\\a:T.{x=a,y=a}(\\a:T.{x=a,y=a}{x={},y={},z={x={}}}))");
        s.start();
        s.step(2);
        Checks.type(s, "[zT");
        return s;
    }

    /** A run of sixty steps that has not come to a value, and never will. */
    private static BoundedSchemes atTheLastStep() {
        BoundedSchemes s = Checks.withTypes("[xT,y[]]");
        s.write(0);
        Checks.readTerm(s, Checks.MORE_THAN_SIXTY_STEPS);
        s.start();
        for (int i = 0; i < 3; i++) {
            s.step(20);
        }
        Checks.type(s, "[zT");
        return s;
    }

    private static void refusedValue() {
        refused("value without a term", RefusalTest::withoutTerm, BoundedSchemes::value, NONE);
        refused("value without a type", RefusalTest::withTermWithoutType, BoundedSchemes::value, NONE);
        refused("value without a run", RefusalTest::withTermWithoutRun, BoundedSchemes::value, NONE);
        refused("value before there is one", RefusalTest::rich, BoundedSchemes::value, NONE);
        refused("value after sixty steps", RefusalTest::atTheLastStep, BoundedSchemes::value, NONE);
        refused("step(20) after sixty steps", RefusalTest::atTheLastStep, s -> s.step(20), 0);
        refused("step(21) after sixty steps", RefusalTest::atTheLastStep, s -> s.step(21), BAD);
        refused("value of 101 characters", RefusalTest::withLongValue, BoundedSchemes::value, FULL);
    }

    private static void callsThatOnlyAnswer() {
        refused("below(0, 1)", RefusalTest::rich, s -> s.below(0, 1), 0);
        refused("below(2, 2)", RefusalTest::rich, s -> s.below(2, 2), 1);
        refused("same(0, 1)", RefusalTest::rich, s -> s.same(0, 1), 0);
        refused("same(2, 2)", RefusalTest::rich, s -> s.same(2, 2), 1);
        refused("size(0)", RefusalTest::rich, s -> s.size(0), 3);
        refused("charAt(0)", RefusalTest::rich, s -> s.charAt(0), '[');
        refused("charAt(7)", RefusalTest::rich, s -> s.charAt(7), ']');
        refused("fits(0)", RefusalTest::rich, s -> s.fits(0) ? 1 : 0, 0);
        refused("fits(1) of a term", RefusalTest::withTermWithoutRun, s -> s.fits(1) ? 1 : 0, 1);
        refused("steps()", RefusalTest::rich, BoundedSchemes::steps, 1);
    }
}
