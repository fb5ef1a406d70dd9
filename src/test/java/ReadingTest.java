/** Promises 1 to 4: a new object, type, readType, readTerm. */
public final class ReadingTest {
    private static final int NONE = BoundedSchemes.NONE;
    private static final int BAD = BoundedSchemes.BAD;
    private static final Checks checks = new Checks();

    public static void main(String[] args) {
        newObject();
        typing();
        typeFaults();
        typesAtTheLimits();
        readTypeAndTheText();
        termFaults();
        termsThatAreDeep();
        termsThatAreBad();
        readTermKeepsOrEnds();
        checks.end();
    }

    private static void newObject() {
        BoundedSchemes s = new BoundedSchemes();
        checks.due("NONE", BoundedSchemes.NONE, -1);
        checks.due("BAD", BoundedSchemes.BAD, -2);
        checks.due("FULL", BoundedSchemes.FULL, -3);
        checks.due("charAt of a new page", s.charAt(0), NONE);
        for (int slot = 0; slot < 4; slot++) {
            checks.due("size of a new slot", s.size(slot), 0);
            checks.due("write of a new slot", s.write(slot), BAD);
            checks.due("below of new slots", s.below(slot, slot), BAD);
            checks.due("fits of a new slot", s.fits(slot), false);
        }
        checks.due("typeOf without a term", s.typeOf(0), BAD);
        checks.due("start without a term", s.start(), false);
        checks.due("step without a run", s.step(1), BAD);
        checks.due("steps without a run", s.steps(), NONE);
        checks.due("value without a run", s.value(), NONE);
        checks.due("readType of a new text", s.readType(0), 0);
        checks.due("readTerm of a new text", s.readTerm(), 0);
    }

    private static void typing() {
        BoundedSchemes s = new BoundedSchemes();
        char[] refused = {0, 31, 127, 128, 0x2028, 0xffff};
        for (char c : refused) {
            checks.due("type " + (int) c, s.type(c), false);
        }
        checks.due("refused characters leave the text", s.readType(0), 0);
        for (int c = 32; c <= 91; c++) {
            checks.due("type " + c, s.type((char) c), true);
        }
        checks.due("the 61st character", s.type('T'), false);
        s.readType(0);
        for (int c = 92; c <= 126; c++) {
            checks.due("type " + c, s.type((char) c), true);
        }
        s.readType(0);
        // Sixty characters of a beginning: the fault is the length, so just sixty are there.
        Checks.type(s, "[x<P:T>" + Checks.times("<P:T>", 10) + "[xT");
        checks.due("the 61st character again", s.type(']'), false);
        checks.due("the fault of sixty characters", s.readType(0), 60);
    }

    private static void typeFault(String text, int fault) {
        BoundedSchemes s = Checks.withTypes("[zT]");
        checks.due("readType of " + text, Checks.readType(s, text, 0), fault);
        checks.due("the slot behind a fault of " + text, Checks.written(s, 0), fault == NONE
            ? Checks.written(Checks.withTypes(text), 0) : "[zT]");
        checks.due("the text behind " + text, s.readType(1), 0);
    }

    private static void typeFaults() {
        typeFault("T", NONE);
        typeFault("TT", 1);
        typeFault("T ", 1);
        typeFault(" T", 0);
        typeFault("a", 0);
        typeFault("U", 0);
        typeFault("O", 0);
        typeFault(")", 0);
        typeFault("(T>T)", NONE);
        typeFault("(T>T", 4);
        typeFault("(T", 2);
        typeFault("(TT)", 2);
        typeFault("(>T)", 1);
        typeFault("(T>T>T)", 4);
        typeFault("((T>T)>[])", NONE);
        typeFault("<P:T>P", NONE);
        typeFault("<T:T>P", 1);
        typeFault("<a:T>P", 1);
        typeFault("<P>T", 2);
        typeFault("<P:>T", 3);
        typeFault("<P:T>", 5);
        typeFault("<P:T.P", 4);
        typeFault("<P:T>PQ", 6);
        typeFault("[]", NONE);
        typeFault("[", 1);
        typeFault("[x", 2);
        typeFault("[x]", 2);
        typeFault("[T]", 1);
        typeFault("[w", 1);
        typeFault("[{", 1);
        typeFault("[xT", 3);
        typeFault("[xT,", 4);
        typeFault("[xT,]", 4);
        typeFault("[xT,xT]", 4);
        typeFault("[yT,xT]", 4);
        typeFault("[xT,zT]", NONE);
        typeFault("[xT,yT,zT]", NONE);
        typeFault("[xT,yT,zT,", 9);
        typeFault("[zT,", 3);
        typeFault("[yT,zT,xT]", 6);
        typeFault("[xTyT]", 3);
        typeFault("[,xT]", 1);
        typeFault("[x=T]", 2);
    }

    private static void typesAtTheLimits() {
        typeFault(Checks.times("(", 23), 23);
        typeFault(Checks.times("(", 23) + "T>T)", 27);
        typeFault(Checks.times("(", 23) + "[]>[]", 28);
        typeFault(Checks.times("(", 24), 23);
        typeFault(Checks.times("(", 23) + "<", 23);
        typeFault(Checks.times("(", 23) + "[x", 24);
        typeFault(Checks.times("(", 22) + "[x", 24);
        typeFault(Checks.times("(", 23) + "T>(", 25);
        typeFault(Checks.times("(", 23) + "T><", 25);
        typeFault(Checks.times("(", 23) + "T>[x", 26);
        typeFault(Checks.times("(", 22) + "[xT,yT,zT]>", 33);
        typeFault(Checks.times("(", 22) + "[x(", 24);
        typeFault(Checks.times("(", 22) + "[xT,y<", 27);
        typeFault(Checks.times("(", 22) + "<P:(", 25);
        typeFault(Checks.times("(", 22) + "<P:P>(", 27);
        typeFault(Checks.times("[x", 23) + "[", 47);
        typeFault(Checks.times("[x", 23) + "[x", 47);
        typeFault(Checks.times("[x", 23) + "[]]", 49);
        typeFault(Checks.times("[x", 15) + "T" + Checks.times("]", 15), NONE);
        typeFault(Checks.times("[x", 16) + "T" + Checks.times("]", 16), BAD);
        typeFault("P", BAD);
        typeFault("(P>T)", BAD);
        typeFault("<P:P>P", BAD);
        typeFault("<P:T>Q", BAD);
        typeFault("(<P:T>P>P)", BAD);
        typeFault("<P:T><Q:P>[xP,yQ]", NONE);
        typeFault("P)", 1);
    }

    private static void readTypeAndTheText() {
        BoundedSchemes s = new BoundedSchemes();
        Checks.type(s, "[xT]");
        checks.due("readType(-1)", s.readType(-1), BAD);
        checks.due("readType(4)", s.readType(4), BAD);
        checks.due("readType(MIN)", s.readType(Integer.MIN_VALUE), BAD);
        checks.due("the text after a wrong slot", s.readType(3), NONE);
        checks.due("the type in slot 3", Checks.written(s, 3), "[xT]");
        Checks.type(s, ")");
        checks.due("a wrong slot comes before a fault", s.readType(4), BAD);
        checks.due("the fault then", s.readType(3), 0);
        checks.due("the type stays", Checks.written(s, 3), "[xT]");
    }

    private static void termFault(String text, int fault) {
        BoundedSchemes s = new BoundedSchemes();
        checks.due("readTerm of " + text, Checks.readTerm(s, text), fault);
        checks.due("the term behind " + text, s.typeOf(0) == BAD, fault != NONE);
        checks.due("the text behind " + text, s.readTerm(), 0);
    }

    private static void termFaults() {
        termFault("{}", NONE);
        termFault("{}}", 2);
        termFault(" {}", 0);
        termFault("T", 0);
        termFault("e", 0);
        termFault("\\a:T.a", NONE);
        termFault("\\e:T.a", 1);
        termFault("\\P:T.a", 1);
        termFault("\\aT.a", 2);
        termFault("\\a:a.a", 3);
        termFault("\\a:T,a", 4);
        termFault("\\a:T.", 5);
        termFault("\\a:T.T", 5);
        termFault("({}{})", NONE);
        termFault("({})", 3);
        termFault("({}{}{})", 5);
        termFault("({}{}", 5);
        termFault("/P:T.{}", NONE);
        termFault("/a:T.{}", 1);
        termFault("/T:T.{}", 1);
        termFault("/P:T>{}", 4);
        termFault("@{}T", NONE);
        termFault("@{}", 3);
        termFault("@{}{}", 3);
        termFault("@T", 1);
        termFault(".x{}", NONE);
        termFault(".z{}", NONE);
        termFault(".w{}", 1);
        termFault(".{{}", 1);
        termFault(".", 1);
        termFault(".x", 2);
        termFault("?0{}{}", NONE);
        termFault("?1{}{}", NONE);
        termFault("?2", 1);
        termFault("?", 1);
        termFault("?/", 1);
        termFault("?0{}", 4);
        termFault("?0{}T", 4);
        termFault("{x={},y={},z={}}", NONE);
        termFault("{x={},z={}}", NONE);
        termFault("{y={},x", 6);
        termFault("{x={},x={}}", 6);
        termFault("{z={},", 5);
        termFault("{x{}}", 2);
        termFault("{x=}", 3);
        termFault("{x={}", 5);
        termFault("{x={},}", 6);
        termFault("{x={}]", 5);
        termFault("{,", 1);
        termFault("\\a:[yT,xT].a", 7);
        termFault("\\a:(T>T.a", 7);
    }

    private static void termsThatAreDeep() {
        termFault(Checks.times(".x", 23) + "{}", NONE);
        termFault(Checks.times(".x", 23) + "a", BAD);
        termFault(Checks.times(".x", 24) + "a", 46);
        for (String sign : new String[] {"\\", "(", "/", "@", ".", "?"}) {
            termFault(Checks.times("?0", 23) + sign, 46);
            termFault(Checks.times("?0", 22) + sign, 45);
        }
        termFault(Checks.times(".x", 23) + "{", 47);
        termFault(Checks.times(".x", 23) + "{x", 47);
        termFault(Checks.times(".x", 22) + "{x=", 47);
        termFault(Checks.times(".x", 22) + "{x={}}", NONE);
        termFault(Checks.times(".x", 22) + "{x={}", 49);
        termFault(Checks.times(".x", 22) + "{x=.", 47);
        termFault(Checks.times(".x", 22) + "\\a:(", 47);
        termFault(Checks.times(".x", 22) + "\\a:[x", 48);
        termFault(Checks.times(".x", 22) + "\\a:[].a", NONE);
        termFault(Checks.times(".x", 22) + "\\a:T.(", 49);
        termFault(Checks.times(".x", 21) + "\\a:[xT].a", NONE);
        termFault(Checks.times(".x", 21) + "\\a:[x[]].a", NONE);
        termFault(Checks.times(".x", 21) + "\\a:[x[x", 48);
        termFault(Checks.times(".x", 22) + "/P:<", 47);
        termFault(Checks.times(".x", 22) + "/P:T.(", 49);
        termFault(Checks.times(".x", 22) + "/P:T.{x", 50);
        termFault(Checks.times(".x", 22) + "(a(", 46);
        termFault(Checks.times(".x", 22) + "(a{}", 48);
        termFault(Checks.times(".x", 22) + "?1a.", 47);
        termFault(Checks.times(".x", 22) + "?1(", 46);
        termFault(Checks.times(".x", 22) + "{x=a,y=?", 51);
        termFault(Checks.times("@", 23) + "{}" + Checks.times("T", 23), NONE);
        termFault(Checks.times("@", 23) + "{}(", 25);
        termFault(Checks.times("@", 23) + "{}T(T>T)", 31);
        termFault(Checks.times("@", 24), 23);
    }

    private static void termsThatAreBad() {
        termFault("a", BAD);
        termFault("\\a:T.b", BAD);
        termFault("(\\a:T.aa)", BAD);
        termFault("\\a:P.a", BAD);
        termFault("/P:P.{}", BAD);
        termFault("/P:T./Q:P.\\a:P.\\b:Q.{x=a,y=b}", NONE);
        termFault("(/P:T.{}\\a:P.a)", BAD);
        termFault("@/P:T.{}P", BAD);
        termFault("\\a:<P:T>P.\\b:P.b", BAD);
        termFault("\\a:" + Checks.times("[x", 15) + "T" + Checks.times("]", 15) + ".a", NONE);
        termFault("\\a:" + Checks.times("[x", 16) + "T" + Checks.times("]", 16) + ".a", BAD);
        termFault("/P:" + Checks.times("[x", 16) + "T" + Checks.times("]", 16) + ".{}", BAD);
        termFault("@{}" + Checks.times("[x", 16) + "T" + Checks.times("]", 16), BAD);
    }

    private static void readTermKeepsOrEnds() {
        BoundedSchemes s = Checks.withTerm("?0{x={}}{y={}}");
        s.start();
        s.step(1);
        checks.due("a fault", Checks.readTerm(s, "("), 1);
        checks.due("the run after a fault", s.steps(), 1);
        checks.due("BAD", Checks.readTerm(s, "a"), BAD);
        checks.due("the run after BAD", s.value(), 6);
        checks.due("the term after BAD", s.typeOf(0), NONE);
        checks.due("its type", Checks.written(s, 0), "[]");
        checks.due("a new term", Checks.readTerm(s, "{z={}}"), NONE);
        checks.due("the run after a new term", s.steps(), NONE);
        checks.due("step after a new term", s.step(1), BAD);
        checks.due("value after a new term", s.value(), NONE);
        checks.due("the new term's type", s.typeOf(1), NONE);
        checks.due("its text", Checks.written(s, 1), "[z[]]");
        checks.due("a term without a type", Checks.readTerm(s, ".x{}"), NONE);
        checks.due("typeOf it", s.typeOf(1), 0);
        checks.due("the slot stays", Checks.written(s, 1), "[z[]]");
        checks.due("start it", s.start(), false);
    }
}
