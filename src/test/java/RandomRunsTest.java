/**
 * Random runs of calls, each made on the class and on the oracle. Arguments: how many runs, and the
 * first seed; without them the runs are always the same ones.
 */
public final class RandomRunsTest {
    private static final int CALLS = 512;
    private final BoundedSchemes made = new BoundedSchemes();
    private final Oracle due = new Oracle();
    private final Texts texts;
    private final StringBuilder told = new StringBuilder();
    private int calls;
    private boolean wrong;
    static final long[] seen = new long[20];

    private RandomRunsTest(long seed) {
        texts = new Texts(seed);
    }

    public static void main(String[] args) {
        int runs = args.length > 0 ? Integer.parseInt(args[0]) : 3000;
        long first = args.length > 1 ? Long.parseLong(args[1]) : 1;
        int wrongRuns = 0;
        for (int i = 0; i < runs && wrongRuns < 5; i++) {
            RandomRunsTest run = new RandomRunsTest(first + i);
            run.play();
            if (run.wrong) {
                wrongRuns++;
                System.out.println("seed " + (first + i) + ":\n" + run.told);
            }
        }
        System.out.println("terms read " + seen[0] + ", with a type " + seen[1] + ", runs with a value "
            + seen[2] + ", joins kept " + seen[3] + ", meets kept " + seen[4] + ", below " + seen[5]
            + " of " + seen[6] + ", steps " + seen[7] + ", full " + seen[8]);
        if (wrongRuns > 0) {
            System.exit(1);
        }
    }

    private void check(String call, long got, long want) {
        calls++;
        told.append(call).append(" answered ").append(got);
        if (got != want) {
            wrong = true;
            told.append(", due is ").append(want);
        }
        told.append('\n');
    }

    private void typeText(String text) {
        for (int i = 0; i < text.length(); i++) {
            char c = text.charAt(i);
            check("type '" + c + "'", made.type(c) ? 1 : 0, due.type(c) ? 1 : 0);
        }
    }

    private void play() {
        while (calls < CALLS - 140 && !wrong) {
            int pick = texts.below(20);
            if (pick < 5) {
                playType();
            } else if (pick < 9) {
                playTerm();
            } else if (pick < 16) {
                playOrder();
            } else {
                playOdd();
            }
        }
    }

    private int slot() {
        return texts.below(20) == 0 ? texts.below(9) - 3 : texts.below(4);
    }

    private void playType() {
        Oracle.Ty old = due.slots[texts.below(4)];
        Oracle.Ty type = old != null && texts.below(3) > 0 ? texts.near(old, java.util.Map.of())
            : texts.type(java.util.Map.of(), 1 + texts.below(17));
        String text = texts.writtenSomehow(type, java.util.Map.of());
        if (text == null) {
            return;
        }
        if (texts.below(8) == 0) {
            text = texts.spoilt(text);
        }
        if (text.length() > 62) {
            return;
        }
        typeText(text);
        int slot = slot();
        check("readType(" + slot + ") of " + text, made.readType(slot), due.readType(slot));
        look(texts.below(4));
    }

    private void playTerm() {
        String text = texts.term(Texts.OUTSIDE, 2 + texts.below(9)).text();
        for (int i = 0; i < 30 && (text.length() > 60 || text.length() < 12); i++) {
            text = texts.term(Texts.OUTSIDE, 2 + texts.below(9)).text();
        }
        if (texts.below(5) == 0) {
            text = texts.spoilt(text);
        }
        if (text.length() > 60) {
            return;
        }
        typeText(text);
        int read = made.readTerm();
        check("readTerm() of " + text, read, due.readTerm());
        int slot = slot();
        int typed = made.typeOf(slot);
        check("typeOf(" + slot + ")", typed, due.typeOf(slot));
        seen[0] += read == -1 ? 1 : 0;
        seen[1] += read == -1 && typed == -1 ? 1 : 0;
        look(slot);
        playRun();
    }

    private void playRun() {
        if (texts.below(6) > 0) {
            check("start()", made.start() ? 1 : 0, due.start() ? 1 : 0);
        }
        for (int i = texts.below(5); i > 0; i--) {
            int n = texts.below(10) == 0 ? texts.below(30) - 4 : texts.below(3) == 0 ? 20 : 1 + texts.below(3);
            int steps = made.step(n);
            check("step(" + n + ")", steps, due.step(n));
            check("steps()", made.steps(), due.steps());
            seen[7] += Math.max(0, steps);
        }
        int value = made.value();
        check("value()", value, due.value());
        seen[2] += value >= 0 ? 1 : 0;
        seen[8] += value == -3 ? 1 : 0;
        readPage(value);
    }

    private void playOrder() {
        int i = slot();
        int j = slot();
        int k = slot();
        int below = made.below(i, j);
        check("below(" + i + "," + j + ")", below, due.below(i, j));
        seen[5] += below == 1 && i != j ? 1 : 0;
        seen[6] += i != j ? 1 : 0;
        check("same(" + i + "," + j + ")", made.same(i, j), due.same(i, j));
        check("fits(" + i + ")", made.fits(i) ? 1 : 0, due.fits(i) ? 1 : 0);
        int pick = texts.below(3);
        if (pick == 0) {
            int size = made.join(i, j, k);
            check("join(" + i + "," + j + "," + k + ")", size, due.join(i, j, k));
            seen[3] += size > 1 ? 1 : 0;
            seen[8] += size == -3 ? 1 : 0;
        } else if (pick == 1) {
            int size = made.meet(i, j, k);
            check("meet(" + i + "," + j + "," + k + ")", size, due.meet(i, j, k));
            seen[4] += size > 0 ? 1 : 0;
            seen[8] += size == -3 ? 1 : 0;
        }
        look(k);
    }

    private void playOdd() {
        int pick = texts.below(4);
        if (pick == 0) {
            int slot = slot();
            check("typeOf(" + slot + ")", made.typeOf(slot), due.typeOf(slot));
        } else if (pick == 1) {
            char c = (char) texts.below(140);
            check("type " + (int) c, made.type(c) ? 1 : 0, due.type(c) ? 1 : 0);
        } else if (pick == 2) {
            playRun();
        } else {
            look(slot());
        }
    }

    private void look(int slot) {
        check("size(" + slot + ")", made.size(slot), due.size(slot));
        int written = made.write(slot);
        check("write(" + slot + ")", written, due.write(slot));
        readPage(written);
    }

    private void readPage(int length) {
        int at = texts.below(8) - 2;
        check("charAt(" + at + ")", made.charAt(at), due.charAt(at));
        // What a call of charAt answers changes nothing, so these need not count.
        for (int p = 0; p <= 100; p++) {
            if (made.charAt(p) != due.charAt(p)) {
                check("charAt(" + p + ") of " + due.page, made.charAt(p), due.charAt(p));
            }
        }
    }
}
