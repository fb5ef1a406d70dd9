/**
 * The sections "Promise 1" to "Promise 17", and "What it is": each boundary that a promise names, on
 * both sides. What a refused call leaves as it was is in RefusalTest.
 */
public final class PromisesBoundaryTest {
    private static final int NONE = BoundedSchemes.NONE;
    private static final int BAD = BoundedSchemes.BAD;
    private static final int FULL = BoundedSchemes.FULL;
    private static final int[] NO_SLOTS = {-1, 4, 5, 256, Integer.MIN_VALUE, Integer.MAX_VALUE};
    private static final Checks checks = new Checks();

    public static void main(String[] args) {
        aNewObject();
        objectsAreApart();
        slotsOfReadType();
        wrongSlotComesFirst();
        readTypeLeavesTheRest();
        readTermLeavesTheRest();
        readTermEndsARun();
        slotsOfOrder();
        slotsOfJoinAndMeet();
        sizesOfJoins();
        sizesOfMeets();
        sizesInSlots();
        namesOnThePage();
        endsOfThePage();
        slotsOfTypeOf();
        typeOfLeavesTheRest();
        placesOfBrokenRules();
        sizesOfTermTypes();
        fits();
        startBeginsAnew();
        stepsInACall();
        sixtySteps();
        valuesOnThePage();
        aHundredCharacters();
        fiveHundredAndTwelveCalls();
        manyCallsOfOneKind();
        checks.end();
    }

    private static void aNewObject() {
        BoundedSchemes s = new BoundedSchemes();
        for (int p : new int[] {-1, 0, 1, 59, 60, 99, 100, 101}) {
            checks.due("charAt of an empty page", s.charAt(p), NONE);
        }
        for (int i = 0; i < 4; i++) {
            checks.due("size", s.size(i), 0);
            checks.due("write", s.write(i), BAD);
            checks.due("fits", s.fits(i), false);
            checks.due("typeOf", s.typeOf(i), BAD);
            for (int j = 0; j < 4; j++) {
                checks.due("below", s.below(i, j), BAD);
                checks.due("same", s.same(i, j), BAD);
                checks.due("join", s.join(i, j, i), BAD);
                checks.due("meet", s.meet(i, j, j), BAD);
            }
        }
        checks.due("start", s.start(), false);
        checks.due("step(1)", s.step(1), BAD);
        checks.due("steps", s.steps(), NONE);
        checks.due("value", s.value(), NONE);
        checks.due("the page is still empty", s.charAt(0), NONE);
        checks.due("the empty text is no type", s.readType(0), 0);
        checks.due("the empty text is no term", s.readTerm(), 0);
        checks.due("all of them leave no type", s.size(0), 0);
    }

    private static void objectsAreApart() {
        BoundedSchemes one = Checks.withTypes("[xT]");
        Checks.readTerm(one, "?0{}{}");
        one.start();
        one.write(0);
        Checks.type(one, "[yT");
        BoundedSchemes other = new BoundedSchemes();
        checks.due("another object's text", other.readType(0), 0);
        checks.due("another object's slot", other.size(0), 0);
        checks.due("another object's page", other.charAt(0), NONE);
        checks.due("another object's term", other.typeOf(0), BAD);
        checks.due("another object's run", other.steps(), NONE);
        checks.due("the first object's text", Checks.readType(one, "]", 1), NONE);
        checks.due("the first object's page", Checks.page(one), "[xT]");
        checks.due("the first object's run", one.step(20), 1);
    }

    private static void slotsOfReadType() {
        BoundedSchemes s = new BoundedSchemes();
        String[] types = {"T", "[xT]", "(T>[])", "<P:T>[yP]"};
        for (int slot = 0; slot < 4; slot++) {
            checks.due("readType(" + slot + ")", Checks.readType(s, types[slot], slot), NONE);
        }
        for (int slot = 0; slot < 4; slot++) {
            checks.due("slot " + slot, Checks.written(s, slot), types[slot]);
        }
        for (int slot = 0; slot < 4; slot++) {
            checks.due("readType(" + slot + ") again", Checks.readType(s, types[3 - slot], slot), NONE);
            checks.due("slot " + slot + " again", Checks.written(s, slot), types[3 - slot]);
        }
    }

    /** "BAD ..., first of all (the text staying), when slot is not 0 .. 3" */
    private static void wrongSlotComesFirst() {
        String seventeen = Checks.times("[x", 16) + "T" + Checks.times("]", 16);
        String[] texts = {"", "T", "(", ")", "P", seventeen, Checks.SIXTY_CHARACTERS};
        int[] answers = {0, NONE, 1, 0, BAD, BAD, 1};
        for (int i = 0; i < texts.length; i++) {
            for (int slot : NO_SLOTS) {
                BoundedSchemes s = new BoundedSchemes();
                Checks.type(s, texts[i]);
                checks.due("readType(" + slot + ") of " + texts[i], s.readType(slot), BAD);
                checks.due("the text stays", s.readType(2), answers[i]);
                checks.due("and then it is empty", s.readType(2), 0);
                checks.due("the type of " + texts[i], s.size(2), answers[i] == NONE ? 1 : 0);
            }
        }
        BoundedSchemes t = new BoundedSchemes();
        Checks.type(t, "[x");
        t.readType(4);
        checks.due("a text that stays goes on", Checks.readType(t, "T]", 0), NONE);
        Checks.type(t, "{");
        t.readType(-1);
        checks.due("it may become a term", Checks.readTerm(t, "}"), NONE);
    }

    private static BoundedSchemes running() {
        BoundedSchemes s = Checks.withTypes("[xT]", "(T>T)", "[]");
        Checks.readTerm(s, "{x=?0{}{},y=?0{}{}}");
        s.start();
        s.step(1);
        s.write(1);
        return s;
    }

    private static void readTypeLeavesTheRest() {
        BoundedSchemes s = running();
        checks.due("readType", Checks.readType(s, "[zT]", 2), NONE);
        checks.due("the page stays", Checks.page(s), "(T>T)");
        checks.due("the run stays", s.steps(), 1);
        checks.due("slot 0 stays", Checks.written(s, 0), "[xT]");
        checks.due("slot 1 stays", Checks.written(s, 1), "(T>T)");
        checks.due("slot 3 stays", s.size(3), 0);
        checks.due("slot 2 is new", Checks.written(s, 2), "[zT]");
        checks.due("the run goes on", s.step(20), 1);
        checks.due("the term stays", s.typeOf(3), NONE);
        checks.due("its type", Checks.written(s, 3), "[x[],y[]]");
    }

    private static void readTermLeavesTheRest() {
        BoundedSchemes s = running();
        checks.due("readTerm", Checks.readTerm(s, "?0{z={}}{}"), NONE);
        checks.due("the page stays", Checks.page(s), "(T>T)");
        checks.due("slot 0 stays", Checks.written(s, 0), "[xT]");
        checks.due("slot 1 stays", Checks.written(s, 1), "(T>T)");
        checks.due("slot 2 stays", Checks.written(s, 2), "[]");
        checks.due("slot 3 stays", s.size(3), 0);
        checks.due("the text is empty", s.readTerm(), 0);
        checks.due("an empty text leaves the term", s.typeOf(3), NONE);
        checks.due("its type", Checks.written(s, 3), "[]");
    }

    /** "which is THE TERM from then on; a run ends" */
    private static void readTermEndsARun() {
        for (String term : new String[] {"{x=?0{}{},y=?0{}{}}", "{}", ".x{}"}) {
            BoundedSchemes s = running();
            checks.due("readTerm of " + term, Checks.readTerm(s, term), NONE);
            checks.due("steps of no run", s.steps(), NONE);
            checks.due("step of no run", s.step(1), BAD);
            checks.due("value of no run", s.value(), NONE);
            checks.due("start of " + term, s.start(), !term.equals(".x{}"));
            checks.due("steps of a new run", s.steps(), term.equals(".x{}") ? NONE : 0);
        }
    }

    private static void slotsOfOrder() {
        BoundedSchemes s = Checks.withTypes("[xT]", "[]", "T", "[xT]");
        for (int i = 0; i < 4; i++) {
            checks.due("below(" + i + ", " + i + ")", s.below(i, i), 1);
            checks.due("same(" + i + ", " + i + ")", s.same(i, i), 1);
            for (int slot : NO_SLOTS) {
                checks.due("below(" + i + ", " + slot + ")", s.below(i, slot), BAD);
                checks.due("below(" + slot + ", " + i + ")", s.below(slot, i), BAD);
                checks.due("same(" + i + ", " + slot + ")", s.same(i, slot), BAD);
                checks.due("same(" + slot + ", " + i + ")", s.same(slot, i), BAD);
            }
        }
        checks.due("below(0, 3)", s.below(0, 3), 1);
        checks.due("below(3, 0)", s.below(3, 0), 1);
        checks.due("below(1, 3)", s.below(1, 3), 0);
        checks.due("same(0, 3)", s.same(0, 3), 1);
        checks.due("same(1, 2)", s.same(1, 2), 0);
    }

    private static void slotsOfJoinAndMeet() {
        for (int to = 0; to < 4; to++) {
            BoundedSchemes s = Checks.withTypes("[xT]", "[yT]", "(T>T)");
            checks.due("join(0, 1, " + to + ")", s.join(0, 1, to), 1);
            checks.due("slot " + to + " of a join", Checks.written(s, to), "[]");
            othersStay(s, to);
            BoundedSchemes t = Checks.withTypes("[xT]", "[yT]", "(T>T)");
            checks.due("meet(1, 0, " + to + ")", t.meet(1, 0, to), 3);
            checks.due("slot " + to + " of a meet", Checks.written(t, to), "[xT,yT]");
            othersStay(t, to);
        }
        BoundedSchemes u = Checks.withTypes("[xT]");
        checks.due("join of a slot with itself", u.join(0, 0, 3), 2);
        checks.due("meet of a slot with itself", u.meet(3, 3, 3), 2);
        checks.due("what it keeps", Checks.written(u, 3), "[xT]");
    }

    private static void othersStay(BoundedSchemes s, int but) {
        String[] there = {"[xT]", "[yT]", "(T>T)", "-2"};
        for (int slot = 0; slot < 4; slot++) {
            if (slot != but) {
                checks.due("slot " + slot + " stays", Checks.written(s, slot), there[slot]);
            }
        }
    }

    private static String nested(int size) {
        return Checks.times("[x", size - 1) + "T" + Checks.times("]", size - 1);
    }

    /** "FULL when its size is above 16" */
    private static void sizesOfJoins() {
        for (int n = 5; n <= 9; n++) {
            BoundedSchemes s = Checks.withTypes("([x" + nested(n) + "]>T)", "([y" + nested(6) + ",zT]>T)", "[]");
            int size = 3 + n + 6 + 1;
            checks.due("a join of " + size, s.join(0, 1, 2), size <= 16 ? size : FULL);
            checks.due("the slot of a join of " + size, s.size(2), size <= 16 ? size : 1);
            checks.due("the same, turned", s.join(1, 0, 3), size <= 16 ? size : FULL);
        }
        BoundedSchemes t = Checks.withTypes(nested(16), nested(16), nested(15));
        checks.due("the join of two of 16", t.join(0, 1, 2), 16);
    }

    private static void sizesOfMeets() {
        for (int n = 5; n <= 12; n++) {
            BoundedSchemes s = Checks.withTypes("[x" + nested(n) + "]", "[y" + nested(6) + ",zT]", "(T>T)");
            int size = 1 + n + 6 + 1;
            checks.due("a meet of " + size, s.meet(0, 1, 3), size <= 16 ? size : FULL);
            checks.due("the slot of a meet of " + size, s.size(3), size <= 16 ? size : 0);
            checks.due("the same, turned", s.meet(1, 0, 0), size <= 16 ? size : FULL);
        }
        BoundedSchemes t = Checks.withTypes(nested(16), "[]");
        checks.due("the meet with a type of 16", t.meet(0, 1, 1), 16);
        BoundedSchemes u = Checks.withTypes("[x" + nested(15) + "]", "[x(T>T),y" + nested(12) + "]");
        checks.due("no meet comes before FULL", u.meet(0, 1, 0), 0);
    }

    private static void sizesInSlots() {
        for (int n = 1; n <= 16; n++) {
            BoundedSchemes s = Checks.withTypes(nested(n));
            checks.due("a size of " + n, s.size(0), n);
        }
        BoundedSchemes t = Checks.withTypes("T", "[]", "T", "[xT]");
        for (int slot : NO_SLOTS) {
            checks.due("size(" + slot + ")", t.size(slot), 0);
        }
        checks.due("size(0)", t.size(0), 1);
        checks.due("size(3)", t.size(3), 2);
    }

    /** "the character with the code 80 + k (T, too)" */
    private static void namesOnThePage() {
        for (int n = 1; n <= 7; n++) {
            StringBuilder want = new StringBuilder();
            for (int k = 0; k < n; k++) {
                want.append('<').append((char) (80 + k)).append(":T>");
            }
            BoundedSchemes s = Checks.withTypes(Checks.times("<P:T>", n) + "P");
            checks.due(n + " names", Checks.written(s, 0), want.append((char) (79 + n)).toString());
            BoundedSchemes t = Checks.withTypes("<P:T>" + Checks.times("<Q:T>", n - 1) + "P");
            checks.due("the last of " + n + " names", t.write(0), 5 * n + 1);
            checks.due("its code", t.charAt(5 * n), n == 1 ? 'P' : 80);
        }
        // In a bound, the scheme around it does not count.
        BoundedSchemes u = Checks.withTypes("<P:<P:<P:T>P>P>P", "<S:T>(<S:S>S><S:<S:S>S>S)");
        checks.due("schemes in bounds", Checks.written(u, 0), "<P:<P:<P:T>P>P>P");
        checks.due("schemes in a scheme", Checks.written(u, 1), "<P:T>(<Q:P>Q><Q:<Q:P>Q>Q)");
    }

    private static void endsOfThePage() {
        // No type of 16 types takes up more characters.
        String widest = "[x[x[],y[],z[]],y[x[],y[],z[]],z[x[],y[],z[x[],y[],z[]]]]";
        BoundedSchemes s = Checks.withTypes("T", "[xT]", widest);
        checks.due("a page of one", s.write(0), 1);
        checks.due("charAt(0)", s.charAt(0), 'T');
        checks.due("charAt(1)", s.charAt(1), NONE);
        checks.due("charAt(-1)", s.charAt(-1), NONE);
        checks.due("a size of 16", s.size(2), 16);
        checks.due("a long page", s.write(2), widest.length());
        checks.due("what it has", Checks.page(s), widest);
        checks.due("its last", s.charAt(widest.length() - 1), ']');
        checks.due("behind it", s.charAt(widest.length()), NONE);
        checks.due("a shorter page", s.write(1), 4);
        checks.due("its last", s.charAt(3), ']');
        checks.due("nothing stays behind it", s.charAt(4), NONE);
    }

    private static void slotsOfTypeOf() {
        for (int slot = 0; slot < 4; slot++) {
            BoundedSchemes s = Checks.withTypes("T", "T", "T");
            Checks.readTerm(s, "{y={}}");
            checks.due("typeOf(" + slot + ")", s.typeOf(slot), NONE);
            for (int i = 0; i < 4; i++) {
                checks.due("slot " + i, Checks.written(s, i), i == slot ? "[y[]]" : i == 3 ? "-2" : "T");
            }
            for (int wrong : NO_SLOTS) {
                checks.due("typeOf(" + wrong + ")", s.typeOf(wrong), BAD);
            }
        }
    }

    private static void typeOfLeavesTheRest() {
        BoundedSchemes s = running();
        Checks.type(s, "[z");
        checks.due("typeOf", s.typeOf(0), NONE);
        checks.due("the page stays", Checks.page(s), "(T>T)");
        checks.due("the run stays", s.steps(), 1);
        checks.due("the text stays", Checks.readType(s, "T]", 3), NONE);
        checks.due("typeOf again", s.typeOf(1), NONE);
        checks.due("both are the same", s.same(0, 1), 1);
        checks.due("the run goes on", s.step(2), 1);
    }

    /** "of several the first one, terms being looked at from the left, each after its parts" */
    private static void placesOfBrokenRules() {
        broken("({}{})", 0);
        broken("{x=({}{}),y=.x{}}", 3);
        broken("{x={},y=.x{},z=({}{})}", 8);
        broken("(.x{}.x{})", 1);
        broken("({}.x{})", 3);
        broken("?0.x{}.y{}", 2);
        broken("?0{}.y{}", 4);
        broken("?1{}.y{}", 4);
        broken(".x.x.x{}", 4);
        broken(".x.x{x={}}", 0);
        broken("@@.x{}TT", 2);
        broken("@@/P:T.{}TT", 0);
        broken("\\a:T..xa", 5);
        broken("/P:T.\\a:P..xa", 10);
        broken("(({}{})({}{}))", 1);
        broken("((\\a:T.a{})(\\a:[xT].a{}))", 11);
        // What breaks lies at the last place where a term can begin.
        broken(Checks.times(".x", 23) + "{}", 44);
        broken(Checks.times("?0", 13) + Checks.times("{}", 13) + ".x{}", 52);
        broken(Checks.times("?0", 14) + Checks.times("{}", 14) + ".x{}", 56);
    }

    private static void broken(String text, int place) {
        BoundedSchemes s = Checks.withTypes("[zT]");
        checks.due("readTerm of " + text, Checks.readTerm(s, text), NONE);
        checks.due("typeOf " + text, s.typeOf(0), place);
        checks.due("typeOf " + text + " again", s.typeOf(0), place);
        checks.due("the slot stays", Checks.written(s, 0), "[zT]");
        checks.due("fits " + text, s.fits(0), false);
        checks.due("start " + text, s.start(), false);
        checks.due("step " + text, s.step(1), BAD);
        checks.due("value of " + text, s.value(), NONE);
    }

    /** "A term whose type would have a size above 16 has none either." */
    private static void sizesOfTermTypes() {
        String six = nested(6);
        String seven = nested(7);
        termSize("{x=\\a:" + seven + ".a}", 16);
        broken("{x={x=\\a:" + seven + ".a}}", 0);
        broken("{x=\\a:" + seven + ".a,y={}}", 0);
        termSize("\\a:" + seven + ".{x=a}", 16);
        broken("\\a:" + seven + ".{x={x=a}}", 0);
        broken("{x=\\a:" + seven + ".{x={x=a}}}", 3);
        termSize("\\b:T.\\a:" + six + ".{x=a}", 16);
        broken("\\b:[xT].\\a:" + six + ".{x=a}", 0);
        termSize("/P:" + seven + ".\\a:" + six + ".{}", 16);
        broken("/P:" + seven + ".\\a:" + seven + ".{}", 0);
        termSize("@/P:T.\\a:P.{x=a}" + seven, 16);
        broken("@/P:T.\\a:P.{x=a,y={}}" + seven, 0);
        broken("{z=@/P:T.\\a:P.{x=a,y={}}" + seven + "}", 3);
        termSize("?0\\a:[x" + seven + "].{}\\a:[y" + six + "].{}", 16);
        broken("?0\\a:[x" + seven + "].{}\\a:[y" + seven + "].{}", 0);
        broken(".x?1\\a:[x" + seven + "].{}\\a:[y" + seven + "].{}", 2);
        // A part that has none breaks its rule, though the whole would be small.
        broken("(\\b:T.{}\\a:" + seven + ".{x={x=a}})", 8);
        broken(".x{x={},y=\\a:" + seven + ".{x={x=a}}}", 10);
    }

    private static void termSize(String term, int size) {
        BoundedSchemes s = Checks.withTerm(term);
        checks.due("typeOf " + term, s.typeOf(0), NONE);
        checks.due("the size of the type of " + term, s.size(0), size);
        checks.due("start " + term, s.start(), true);
    }

    private static void fits() {
        BoundedSchemes s = Checks.withTypes("[x[]]", "[xT,yT]", "T");
        checks.due("fits without a term", s.fits(2), false);
        Checks.readTerm(s, "{x={},z={}}");
        boolean[] want = {true, false, true, false};
        for (int slot = 0; slot < 4; slot++) {
            checks.due("fits(" + slot + ")", s.fits(slot), want[slot]);
        }
        for (int slot : NO_SLOTS) {
            checks.due("fits(" + slot + ")", s.fits(slot), false);
        }
        Checks.readTerm(s, ".y{x={}}");
        checks.due("fits without a type", s.fits(2), false);
        Checks.readTerm(s, "a");
        checks.due("fits after BAD", s.fits(2), false);
        Checks.readTerm(s, "{}");
        checks.due("fits of a new term", s.fits(2), true);
    }

    private static void startBeginsAnew() {
        BoundedSchemes s = running();
        checks.due("one step is made", s.steps(), 1);
        checks.due("start", s.start(), true);
        checks.due("no step is made", s.steps(), 0);
        checks.due("the page stays", Checks.page(s), "(T>T)");
        checks.due("both steps", s.step(20), 2);
        checks.due("the value", s.value(), 11);
        checks.due("start at a value", s.start(), true);
        checks.due("no step again", s.steps(), 0);
        checks.due("no value any more", s.value(), NONE);
        checks.due("the value's page stays", Checks.page(s), "{x={},y={}}");
        BoundedSchemes t = Checks.withTerm(".x{}");
        checks.due("start without a type", t.start(), false);
        checks.due("no run", t.steps(), NONE);
    }

    /** "BAD when there is no run or n is not 1 .. 20" */
    private static void stepsInACall() {
        for (int n = -2; n <= 24; n++) {
            BoundedSchemes s = Checks.withTerm(Checks.SIXTY_CHARACTERS);
            checks.due("step(" + n + ") of no run", s.step(n), BAD);
            s.start();
            boolean taken = n >= 1 && n <= 20;
            checks.due("step(" + n + ")", s.step(n), taken ? n : BAD);
            checks.due("steps after step(" + n + ")", s.steps(), taken ? n : 0);
        }
        for (int n = 1; n <= 20; n++) {
            BoundedSchemes s = Checks.withTerm("{x=?0{}{},y=?0{}{},z=?0{}{}}");
            s.start();
            checks.due("step(" + n + ") of three", s.step(n), Math.min(n, 3));
            checks.due("the rest of three", s.step(20), 3 - Math.min(n, 3));
            checks.due("none is left", s.step(n), 0);
            checks.due("all steps", s.steps(), 3);
        }
    }

    /** "or fewer when ... 60 steps were made in the run" */
    private static void sixtySteps() {
        BoundedSchemes s = Checks.withTerm(Checks.MORE_THAN_SIXTY_STEPS);
        s.start();
        for (int made = 0; made < 60; made++) {
            checks.due("steps", s.steps(), made);
            checks.due("no value after " + made, s.value(), NONE);
            checks.due("step " + made, s.step(1), 1);
        }
        checks.due("the 61st step", s.step(1), 0);
        checks.due("sixty steps", s.steps(), 60);
        checks.due("no value after 60", s.value(), NONE);
        checks.due("step(21) then", s.step(21), BAD);
        checks.due("start again", s.start(), true);
        checks.due("twenty", s.step(20), 20);
        checks.due("forty", s.step(20), 20);
        checks.due("fifty-nine", s.step(19), 19);
        checks.due("only one of two", s.step(2), 1);
        checks.due("none of twenty", s.step(20), 0);
        checks.due("sixty again", s.steps(), 60);
        BoundedSchemes t = Checks.withTerm(Checks.SIXTY_CHARACTERS);
        t.start();
        checks.due("twenty of 58", t.step(20), 20);
        checks.due("forty of 58", t.step(20), 20);
        checks.due("the rest of 58", t.step(20), 18);
        checks.due("a value after 58", t.value(), 1);
        checks.due("the value", Checks.page(t), "f");
    }

    private static void valuesOnThePage() {
        BoundedSchemes s = Checks.withTypes("[xT,yT]");
        Checks.readTerm(s, "?0{x=\\a:T.a,z=/P:T.{}}{}");
        s.write(0);
        s.start();
        checks.due("value before the last step", s.value(), NONE);
        checks.due("the page stays", Checks.page(s), "[xT,yT]");
        s.step(1);
        checks.due("value", s.value(), 9);
        checks.due("the value", Checks.page(s), "{x=f,z=g}");
        checks.due("value again", s.value(), 9);
        Checks.readTerm(s, "{}");
        checks.due("value of no run", s.value(), NONE);
        checks.due("the page stays then", Checks.page(s), "{x=f,z=g}");
        s.start();
        checks.due("a value without a step", s.value(), 2);
        checks.due("a shorter page", Checks.page(s), "{}");
    }

    /** "FULL when there would be more than 100, the page staying" */
    private static void aHundredCharacters() {
        String fill = "(\\a:T.{x=a,y=a}(\\a:T.{x=a,y=a}#))";
        // The value has four of what stands for #, and 21 characters around them.
        for (String part : new String[] {"{x={},y=\\a:T.a}", "{x=\\a:T.a,y=\\a:T.{}}", "{x={},y={},z=\\a:T.{}}",
            "{x=\\a:T.{},y={z={}}}", "{x={},y={},z={}}", "{x={},y={},z={x={}}}"}) {
            String term = fill.replace("#", part);
            int length = 21 + 4 * part.replace("\\a:T.a", "f").replace("\\a:T.{}", "f").length();
            BoundedSchemes s = Checks.withTypes("[xT]");
            s.write(0);
            Checks.readTerm(s, term);
            s.start();
            s.step(20);
            longValue(s, term, length);
        }
        String chain = Checks.times("(b", 11) + "b" + Checks.times(")", 11);
        BoundedSchemes t = Checks.withTypes("[xT]");
        t.write(0);
        Checks.readTerm(t, "(\\b:(T>T)." + chain + "\\a:T.{x=a,y={}})");
        t.start();
        t.step(20);
        longValue(t, "a chain", 100);
    }

    private static void longValue(BoundedSchemes s, String term, int length) {
        boolean taken = length <= 100;
        checks.due("a value of " + length + ", " + term, s.value(), taken ? length : FULL);
        checks.due("its last character", s.charAt(length - 1), taken ? '}' : NONE);
        checks.due("behind it", s.charAt(length), NONE);
        if (!taken) {
            checks.due("the page stays", Checks.page(s), "[xT]");
        }
    }

    /** "An object is used for at most 512 calls": the last of them is as good as the first. */
    private static void fiveHundredAndTwelveCalls() {
        BoundedSchemes s = new BoundedSchemes();
        int calls = 0;
        for (int round = 0; round < 5; round++) {
            Checks.type(s, Checks.MORE_THAN_SIXTY_STEPS);
            checks.due("readTerm in round " + round, s.readTerm(), NONE);
            checks.due("start in round " + round, s.start(), true);
            for (int i = 0; i < 3; i++) {
                checks.due("step in round " + round, s.step(20), 20);
            }
            calls += 65;
        }
        Checks.type(s, "<P:[]>(P>P)");
        checks.due("readType", s.readType(0), NONE);
        calls += 12;
        while (calls < 509) {
            checks.due("join", s.join(0, 0, calls % 3 + 1), 5);
            calls++;
        }
        checks.due("call 510", s.write(1), 11);
        checks.due("call 511", s.charAt(10), ')');
        checks.due("call 512", s.step(20), 0);
        // What later calls answer is free, but none of them may throw.
        for (int i = 0; i < 2000; i++) {
            s.type('(');
            s.readTerm();
            s.join(i % 6 - 1, 1, 2);
            s.step(i % 23 - 1);
            s.value();
            s.charAt(i - 900);
        }
    }

    /** What one call needs is free again for the next one, also when no other kind comes between. */
    private static void manyCallsOfOneKind() {
        String left = "<P:[xT]>[x(P>T),y[y(P>P)]]";
        String right = "<Q:[xT]>[x(Q>T),z[z(Q>Q)]]";
        for (int kind = 0; kind < 8; kind++) {
            BoundedSchemes s = Checks.withTypes(left, right);
            Checks.readTerm(s, "(\\a:T.{x={x=a},y={y=a},z={z=a}}{x={},y={},z={}})");
            int times = kind == 6 ? 130 : 390;
            for (int i = 0; i < times; i++) {
                checks.due("call " + i + " of kind " + kind, callOfKind(s, kind), due(kind));
            }
            checks.due("a run behind kind " + kind, callOfKind(s, 6), due(6));
        }
    }

    private static int callOfKind(BoundedSchemes s, int kind) {
        switch (kind) {
            case 0:
                return s.below(0, 1);
            case 1:
                return s.same(0, 1);
            case 2:
                return s.join(0, 1, 3);
            case 3:
                return s.meet(0, 1, 3);
            case 4:
                return s.write(1);
            case 5:
                return s.start() ? 1 : 0;
            case 6:
                return s.start() ? s.step(20) + s.value() : BAD;
            default:
                return s.fits(1) ? 1 : 0;
        }
    }

    private static int due(int kind) {
        return new int[] {0, 0, 7, 15, 26, 1, 71, 0}[kind];
    }
}
