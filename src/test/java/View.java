/** All that later calls tell of an object. Looking makes calls that change it, so it is used up. */
final class View {
    private final BoundedSchemes schemes;
    private final StringBuilder seen = new StringBuilder();

    private View(BoundedSchemes schemes) {
        this.schemes = schemes;
    }

    /** REST goes behind the text before that is read, so that it tells the text before it. */
    static String of(BoundedSchemes schemes, String rest) {
        View view = new View(schemes);
        view.lookAtPage();
        view.lookAtOrder();
        view.lookAtRun();
        view.lookAtSlots();
        view.lookAtTerm();
        view.lookAtText(rest);
        return view.seen.toString();
    }

    private void told(String what, long answer) {
        seen.append(what).append(' ').append(answer).append('\n');
    }

    private void lookAtPage() {
        seen.append("page ").append(Checks.page(schemes)).append('\n');
    }

    private void lookAtOrder() {
        for (int i = 0; i < 4; i++) {
            told("size " + i, schemes.size(i));
            told("fits " + i, schemes.fits(i) ? 1 : 0);
            for (int j = 0; j < 4; j++) {
                told("below " + i + j, schemes.below(i, j));
                told("same " + i + j, schemes.same(i, j));
            }
        }
    }

    private void lookAtRun() {
        told("steps", schemes.steps());
        told("value", schemes.value());
        lookAtPage();
        told("one step", schemes.step(1));
        told("steps then", schemes.steps());
        told("value then", schemes.value());
        lookAtPage();
        told("more steps", schemes.step(20));
        told("value at last", schemes.value());
        lookAtPage();
    }

    private void lookAtSlots() {
        for (int slot = 0; slot < 4; slot++) {
            told("write " + slot, schemes.write(slot));
            lookAtPage();
        }
    }

    private void lookAtTerm() {
        told("typeOf", schemes.typeOf(0));
        told("write its type", schemes.write(0));
        lookAtPage();
        told("start", schemes.start() ? 1 : 0);
        told("steps of a new run", schemes.steps());
        told("step of a new run", schemes.step(20));
    }

    // A text that is no type is seen by its fault, one that is a type by what it puts on the page.
    private void lookAtText(String rest) {
        for (int i = 0; i < rest.length(); i++) {
            told("type " + rest.charAt(i), schemes.type(rest.charAt(i)) ? 1 : 0);
        }
        told("readType", schemes.readType(3));
        told("write what was read", schemes.write(3));
        lookAtPage();
        told("the text then", schemes.readTerm());
    }
}
