/** What the tests share: counting wrong answers, and calls that need many characters. */
final class Checks {
    /** A term of as many characters as the text has, with a value after 58 steps. */
    static final String SIXTY_CHARACTERS = "(\\c:((T>T)>T).(c\\d:T.(c\\d:T.?0?0ddd))\\a:(T>T).(a(a(a(aa)))))";
    /** As long a term, which would have its value after 62 steps. */
    static final String MORE_THAN_SIXTY_STEPS =
        "(\\c:((T>T)>T).(c\\d:T.(c\\d:T.?0dd))\\a:(T>T).(a(a(a(a(aa))))))";

    private int wrong;

    void due(String what, long got, long want) {
        if (got != want) {
            wrong++;
            System.out.println(what + " answered " + got + ", due is " + want);
        }
    }

    void due(String what, boolean got, boolean want) {
        due(what, got ? 1 : 0, want ? 1 : 0);
    }

    void due(String what, String got, String want) {
        if (!got.equals(want)) {
            wrong++;
            System.out.println(what + " is " + got + ", due is " + want);
        }
    }

    void end() {
        if (wrong > 0) {
            System.out.println(wrong + " answers are wrong");
            System.exit(1);
        }
    }

    static void type(BoundedSchemes schemes, String text) {
        for (int i = 0; i < text.length(); i++) {
            if (!schemes.type(text.charAt(i))) {
                throw new IllegalStateException("can't type " + text);
            }
        }
    }

    static int readType(BoundedSchemes schemes, String text, int slot) {
        type(schemes, text);
        return schemes.readType(slot);
    }

    static int readTerm(BoundedSchemes schemes, String text) {
        type(schemes, text);
        return schemes.readTerm();
    }

    /** A new object with these types in its slots, from slot 0 on. */
    static BoundedSchemes withTypes(String... types) {
        BoundedSchemes schemes = new BoundedSchemes();
        for (int slot = 0; slot < types.length; slot++) {
            if (readType(schemes, types[slot], slot) != BoundedSchemes.NONE) {
                throw new IllegalStateException("can't read " + types[slot]);
            }
        }
        return schemes;
    }

    static BoundedSchemes withTerm(String term) {
        BoundedSchemes schemes = new BoundedSchemes();
        if (readTerm(schemes, term) != BoundedSchemes.NONE) {
            throw new IllegalStateException("can't read " + term);
        }
        return schemes;
    }

    static String page(BoundedSchemes schemes) {
        StringBuilder page = new StringBuilder();
        for (int p = 0; schemes.charAt(p) != BoundedSchemes.NONE; p++) {
            page.append((char) schemes.charAt(p));
        }
        return page.toString();
    }

    static String written(BoundedSchemes schemes, int slot) {
        int answer = schemes.write(slot);
        return answer < 0 ? String.valueOf(answer) : page(schemes);
    }

    static String times(String part, int n) {
        return part.repeat(n);
    }
}
