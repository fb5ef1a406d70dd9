/**
 * What the rules of types and of runs mean together: a term with a type can always make a step or is
 * a value, and what a step makes has a type that is below the one before. Arguments: how many terms,
 * and the first seed.
 */
public final class SoundnessTest {
    private static final Checks checks = new Checks();
    private static final int CHARACTERS = 60;
    private static int runs;
    private static int steps;
    private static int stepsSeen;
    private static int tooLarge;

    public static void main(String[] args) {
        int terms = args.length > 0 ? Integer.parseInt(args[0]) : 40000;
        long first = args.length > 1 ? Long.parseLong(args[1]) : 1;
        Texts texts = new Texts(first);
        for (int i = 0; i < terms; i++) {
            String term = texts.term(Texts.OUTSIDE, 2 + texts.below(9)).text();
            if (term.length() <= CHARACTERS && !Rewriting.isValue(term)) {
                run(term);
            }
        }
        run(Checks.SIXTY_CHARACTERS);
        run(Checks.MORE_THAN_SIXTY_STEPS);
        System.out.println("runs " + runs + ", steps " + steps + ", with a type to compare " + stepsSeen
            + ", too large for one " + tooLarge);
        checks.end();
    }

    private static void run(String term) {
        BoundedSchemes schemes = new BoundedSchemes();
        if (Checks.readTerm(schemes, term) != BoundedSchemes.NONE || schemes.typeOf(0) != BoundedSchemes.NONE) {
            return;
        }
        runs++;
        checks.due("start of " + term, schemes.start(), true);
        String now = term;
        String type = Checks.written(schemes, 0);
        for (int made = 0; made < 60 && !Rewriting.isValue(now); made++) {
            checks.due("value before its time of " + term, schemes.value(), BoundedSchemes.NONE);
            checks.due("a step of " + now, schemes.step(1), 1);
            now = Rewriting.stepped(now);
            steps++;
            type = typeBelow(now, type, term);
        }
        if (Rewriting.isValue(now)) {
            checks.due("a step of the value " + now, schemes.step(1), 0);
            valueIs(schemes, Rewriting.shown(now), term);
        } else {
            checks.due("a step behind the last one of " + term, schemes.step(1), 0);
            checks.due("value behind the last step of " + term, schemes.value(), BoundedSchemes.NONE);
        }
    }

    private static void valueIs(BoundedSchemes schemes, String due, String term) {
        int answer = schemes.value();
        if (due.length() > 100) {
            checks.due("value of " + term, answer, BoundedSchemes.FULL);
        } else {
            checks.due("value of " + term, answer, due.length());
            checks.due("page with the value of " + term, Checks.page(schemes), due);
        }
    }

    // The type of (ef) or .xe is a part of a type that is not too large.
    private static boolean mayBeTooLarge(char sign) {
        return sign != '(' && sign != '.';
    }

    /** The type of a term, which must be below the type before it; that one, if it can't be told. */
    private static String typeBelow(String term, String before, String from) {
        BoundedSchemes schemes = new BoundedSchemes();
        if (term.length() > CHARACTERS || Checks.readTerm(schemes, term) != BoundedSchemes.NONE
            || Checks.readType(schemes, before, 1) != BoundedSchemes.NONE) {
            tooLarge++;
            return before;
        }
        int place = schemes.typeOf(0);
        if (place >= 0 && mayBeTooLarge(term.charAt(place))) {
            tooLarge++;
            return before;
        }
        checks.due("typeOf " + term + " from " + from, place, BoundedSchemes.NONE);
        checks.due(term + " fits " + before + " from " + from, schemes.fits(1), true);
        stepsSeen++;
        return Checks.written(schemes, 0);
    }
}
