import java.util.Arrays;

/**
 * Types with bounds, terms over them and runs of such terms, as the numbered promises of the
 * document say.
 *
 * <p>A type variable is held as its LEVEL: the number of type variables that are open around the
 * place that binds it. Two types that stand in the same place are the same just when they are
 * equal node by node, and the level is also the name that is written.
 */
public final class BoundedSchemes {
    public static final int NONE = -1;
    public static final int BAD = -2;
    public static final int FULL = -3;

    private static final int TEXT_LIMIT = 60;
    private static final int PAGE_LIMIT = 100;
    private static final int DEPTH_LIMIT = 24;
    private static final int SIZE_LIMIT = 16;
    private static final int SLOTS = 4;
    private static final int LABELS = 3;
    private static final int STEP_LIMIT = 60;
    private static final int STEPS_A_CALL = 20;
    // How far calls go into types and values. A type has at most 16 levels, and the bounds in one
    // text add fewer than 20; a value of more than 34 levels has more than 100 characters.
    private static final int LEVELS = 40;

    private final char[] text = new char[TEXT_LIMIT];
    private final KeptType[] slots = new KeptType[SLOTS];
    private final KeptType termType = new KeptType();
    private final TypeRoom room = new TypeRoom();
    private final Page page = new Page();
    private final Reader reader;
    private final Checker checker;
    private final Machine machine;
    private int length;
    private Term term = new Term();
    private Term spare = new Term();
    private boolean hasTerm;
    private int breakPlace = NONE;
    private boolean running;
    private int stepsMade;

    public BoundedSchemes() {
        for (int slot = 0; slot < SLOTS; slot++) {
            slots[slot] = new KeptType();
        }
        reader = new Reader(room, text, spare);
        checker = new Checker(room, term);
        machine = new Machine(term);
    }

    public boolean type(char c) {
        if (c < 32 || c > 126 || length >= TEXT_LIMIT) {
            return false;
        }
        text[length] = c;
        length++;
        return true;
    }

    public int readType(int slot) {
        if (!isSlot(slot)) {
            return BAD;
        }
        room.clear();
        int type = reader.readWholeType(length);
        length = 0;
        if (reader.fault != NONE) {
            return reader.fault;
        }
        if (!reader.closed || reader.tooLarge) {
            return BAD;
        }
        room.keep(type, slots[slot]);
        return NONE;
    }

    public int readTerm() {
        room.clear();
        reader.readWholeTerm(length, spare);
        length = 0;
        if (reader.fault != NONE) {
            return reader.fault;
        }
        if (!reader.closed || reader.tooLarge) {
            return BAD;
        }
        takeSpareAsTerm();
        // The types that the reader made for the term are still in the room only now.
        int type = checker.find(0, 0, 1);
        breakPlace = checker.breakPlace;
        if (type != NONE) {
            room.keep(type, termType);
        }
        return NONE;
    }

    public int below(int i, int j) {
        if (!hasType(i) || !hasType(j)) {
            return BAD;
        }
        return keptBelow(slots[i], slots[j]) ? 1 : 0;
    }

    public int same(int i, int j) {
        if (!hasType(i) || !hasType(j)) {
            return BAD;
        }
        room.clear();
        int left = room.unpack(slots[i]);
        int right = room.unpack(slots[j]);
        return room.isSame(left, right, 0) ? 1 : 0;
    }

    public int join(int i, int j, int k) {
        if (!hasType(i) || !hasType(j) || !isSlot(k)) {
            return BAD;
        }
        room.clear();
        int left = room.unpack(slots[i]);
        int right = room.unpack(slots[j]);
        return keepMade(room.joinOf(left, right, 0, 0), k);
    }

    public int meet(int i, int j, int k) {
        if (!hasType(i) || !hasType(j) || !isSlot(k)) {
            return BAD;
        }
        room.clear();
        int left = room.unpack(slots[i]);
        int right = room.unpack(slots[j]);
        int made = room.meetOf(left, right, 0, 0);
        return made == NONE ? 0 : keepMade(made, k);
    }

    public int size(int slot) {
        return hasType(slot) ? slots[slot].count : 0;
    }

    public int write(int slot) {
        if (!hasType(slot)) {
            return BAD;
        }
        room.clear();
        page.begin();
        room.writeOn(page, room.unpack(slots[slot]), 0, 0);
        return page.show();
    }

    public int charAt(int p) {
        return p >= 0 && p < page.count ? page.shown[p] : NONE;
    }

    public int typeOf(int slot) {
        if (!hasTerm || !isSlot(slot)) {
            return BAD;
        }
        if (breakPlace == NONE) {
            slots[slot].copyFrom(termType);
        }
        return breakPlace;
    }

    public boolean fits(int slot) {
        return termHasType() && hasType(slot) && keptBelow(termType, slots[slot]);
    }

    public boolean start() {
        if (!termHasType()) {
            return false;
        }
        machine.run(term);
        running = true;
        stepsMade = 0;
        return true;
    }

    public int step(int n) {
        if (!running || n < 1 || n > STEPS_A_CALL) {
            return BAD;
        }
        int more = Math.min(n, machine.steps - stepsMade);
        stepsMade += more;
        return more;
    }

    public int steps() {
        return running ? stepsMade : NONE;
    }

    public int value() {
        if (!running || stepsMade < machine.steps || machine.result == NONE) {
            return NONE;
        }
        page.begin();
        machine.writeOn(page, machine.result, 0);
        return page.show();
    }

    private static boolean isSlot(int slot) {
        return slot >= 0 && slot < SLOTS;
    }

    private boolean hasType(int slot) {
        return isSlot(slot) && slots[slot].count > 0;
    }

    private boolean termHasType() {
        return hasTerm && breakPlace == NONE;
    }

    private boolean keptBelow(KeptType low, KeptType high) {
        room.clear();
        int left = room.unpack(low);
        int right = room.unpack(high);
        return room.isBelow(left, right, 0, 0);
    }

    private int keepMade(int made, int slot) {
        int size = room.size[made];
        if (size > SIZE_LIMIT) {
            return FULL;
        }
        room.keep(made, slots[slot]);
        return size;
    }

    private void takeSpareAsTerm() {
        Term read = spare;
        spare = term;
        term = read;
        hasTerm = true;
        running = false;
        checker.begin(term);
    }

    /** A closed type that lasts from call to call: its nodes' codes, each before its parts. */
    private static final class KeptType {
        private final int[] codes = new int[SIZE_LIMIT];
        private int count;
        private int cursor;

        private void copyFrom(KeptType other) {
            count = other.count;
            for (int i = 0; i < SIZE_LIMIT; i++) {
                codes[i] = other.codes[i];
            }
        }

        private void append(int code) {
            if (count < SIZE_LIMIT) {
                codes[count] = code;
                count++;
            }
        }
    }

    /**
     * The types of one call, as nodes in rows that every call uses anew. OPEN in an argument is the
     * number of open type variables; the bound of level k is a type in a place with k open ones.
     */
    private static final class TypeRoom {
        // Most calls make fewer nodes than this; rows that are large from the start would take up
        // the room of all objects.
        private static final int FIRST_NODES = 64;
        // A text has at most 60 types. The most nodes that calls made from them, in a search for
        // texts that need many, were 107 at once, so this is far above what any call can need.
        private static final int MOST_NODES = 16384;
        private static final int OPEN_LIMIT = 64;

        // The three low bits of a code tell which parts a node has. Those of a record are its
        // labels, so & and | of two such codes are those of the common labels and of all labels.
        private static final int TOP = 0;
        private static final int RECORD = 8;
        private static final int FUNCTION = 16 + 3;
        private static final int SCHEME = 32 + 3;
        private static final int VARIABLE = 64;
        private static final int NEXT_LEVEL = 8;

        private static final int TOP_NODE = 0;

        private int[] code = new int[FIRST_NODES];
        private int[] first = new int[FIRST_NODES];
        private int[] second = new int[FIRST_NODES];
        private int[] third = new int[FIRST_NODES];
        private int[] size = new int[FIRST_NODES];
        private final int[] bounds = new int[OPEN_LIMIT];
        private int count = 1;

        private TypeRoom() {
            size[TOP_NODE] = 1;
        }

        private void clear() {
            count = 1;
        }

        private int make(int newCode, int x, int y, int z) {
            if (count >= code.length && !grow()) {
                return TOP_NODE;
            }
            int node = count;
            count++;
            code[node] = newCode;
            first[node] = x;
            second[node] = y;
            third[node] = z;
            size[node] = 1
                + (holds(newCode, 0) ? size[x] : 0)
                + (holds(newCode, 1) ? size[y] : 0)
                + (holds(newCode, 2) ? size[z] : 0);
            return node;
        }

        /** Makes the rows longer; false when they may not be. */
        private boolean grow() {
            int nodes = Math.min(2 * code.length, MOST_NODES);
            if (nodes <= code.length) {
                return false;
            }
            code = Arrays.copyOf(code, nodes);
            first = Arrays.copyOf(first, nodes);
            second = Arrays.copyOf(second, nodes);
            third = Arrays.copyOf(third, nodes);
            size = Arrays.copyOf(size, nodes);
            return true;
        }

        private int variable(int level) {
            return make(VARIABLE + NEXT_LEVEL * level, TOP_NODE, TOP_NODE, TOP_NODE);
        }

        private static boolean holds(int code, int i) {
            return (code >> i & 1) == 1;
        }

        private boolean areRecords(int left, int right) {
            return isRecord(left) && isRecord(right);
        }

        private boolean isRecord(int type) {
            return code[type] >= RECORD && code[type] < FUNCTION;
        }

        private int part(int type, int i) {
            return i == 0 ? first[type] : i == 1 ? second[type] : third[type];
        }

        private boolean isVariable(int type) {
            return code[type] >= VARIABLE;
        }

        private int levelOf(int variable) {
            return (code[variable] - VARIABLE) / NEXT_LEVEL;
        }

        private void keep(int type, KeptType kept) {
            kept.count = 0;
            pack(type, kept, 0);
        }

        private void pack(int type, KeptType kept, int deep) {
            if (deep >= LEVELS) {
                return;
            }
            kept.append(code[type]);
            for (int i = 0; i < LABELS; i++) {
                if (holds(code[type], i)) {
                    pack(part(type, i), kept, deep + 1);
                }
            }
        }

        private int unpack(KeptType kept) {
            kept.cursor = 0;
            return unpackNext(kept, 0);
        }

        private int unpackNext(KeptType kept, int deep) {
            if (deep >= LEVELS || kept.cursor >= kept.count) {
                return TOP_NODE;
            }
            int next = kept.codes[kept.cursor];
            kept.cursor++;
            int x = holds(next, 0) ? unpackNext(kept, deep + 1) : TOP_NODE;
            int y = holds(next, 1) ? unpackNext(kept, deep + 1) : TOP_NODE;
            int z = holds(next, 2) ? unpackNext(kept, deep + 1) : TOP_NODE;
            return make(next, x, y, z);
        }

        private boolean isSame(int left, int right, int deep) {
            if (left == right) {
                return true;
            }
            if (deep >= LEVELS || code[left] != code[right]) {
                return false;
            }
            for (int i = 0; i < LABELS; i++) {
                if (holds(code[left], i) && !isSame(part(left, i), part(right, i), deep + 1)) {
                    return false;
                }
            }
            return true;
        }

        /** The type, from a place with that many open ones, for a place with BY more of them. */
        private int lift(int type, int open, int by, int deep) {
            if (by == 0 || deep >= LEVELS) {
                return type;
            }
            if (isVariable(type)) {
                int level = levelOf(type);
                return level < open ? type : variable(level + by);
            }
            int x = holds(code[type], 0) ? lift(first[type], open, by, deep + 1) : first[type];
            int y = holds(code[type], 1) ? lift(second[type], open, by, deep + 1) : second[type];
            int z = holds(code[type], 2) ? lift(third[type], open, by, deep + 1) : third[type];
            return remake(type, x, y, z);
        }

        // What has not changed is not made again, which keeps the room small.
        private int remake(int type, int x, int y, int z) {
            if (x == first[type] && y == second[type] && z == third[type]) {
                return type;
            }
            return make(code[type], x, y, z);
        }

        /** The type with ARGUMENT for the variable of that level, which is no longer open then. */
        private int replace(int type, int level, int argument, int inside, int deep) {
            if (deep >= LEVELS) {
                return type;
            }
            if (isVariable(type)) {
                int found = levelOf(type);
                if (found == level) {
                    return lift(argument, level, inside, 0);
                }
                return found < level ? type : variable(found - 1);
            }
            int bodyInside = code[type] == SCHEME ? inside + 1 : inside;
            int x = holds(code[type], 0)
                ? replace(first[type], level, argument, inside, deep + 1) : first[type];
            int y = holds(code[type], 1)
                ? replace(second[type], level, argument, bodyInside, deep + 1) : second[type];
            int z = holds(code[type], 2)
                ? replace(third[type], level, argument, inside, deep + 1) : third[type];
            return remake(type, x, y, z);
        }

        private int boundOf(int variable, int open) {
            int level = levelOf(variable);
            if (level < 0 || level >= open || level >= OPEN_LIMIT) {
                return TOP_NODE;
            }
            return lift(bounds[level], level, open - level, 0);
        }

        private int exposed(int type, int open) {
            int form = type;
            for (int i = 0; i < open && isVariable(form); i++) {
                form = boundOf(form, open);
            }
            return form;
        }

        /** Opens one more type variable; false when there is no room for it. */
        private boolean openOne(int bound, int open) {
            if (open < 0 || open >= OPEN_LIMIT) {
                return false;
            }
            bounds[open] = bound;
            return true;
        }

        private boolean isBelow(int low, int high, int open, int deep) {
            if (deep >= LEVELS) {
                return false;
            }
            int mark = count;
            boolean answer = code[high] == TOP || isBelowForm(low, high, open, deep);
            // An answer needs none of the nodes that were made to find it.
            count = mark;
            return answer;
        }

        private boolean isBelowForm(int low, int high, int open, int deep) {
            int form = low;
            for (int i = 0; i < open && isVariable(form) && code[form] != code[high]; i++) {
                form = boundOf(form, open);
            }
            if (isVariable(form) || isVariable(high)) {
                return code[form] == code[high];
            }
            if (areRecords(form, high)) {
                return isRecordBelow(form, high, open, deep);
            }
            if (code[form] != code[high]) {
                return false;
            }
            if (code[form] == FUNCTION) {
                return isBelow(first[high], first[form], open, deep + 1)
                    && isBelow(second[form], second[high], open, deep + 1);
            }
            return haveSameBound(form, high)
                && openOne(first[form], open)
                && isBelow(second[form], second[high], open + 1, deep + 1);
        }

        private boolean isRecordBelow(int low, int high, int open, int deep) {
            for (int i = 0; i < LABELS; i++) {
                if (!holds(code[high], i)) {
                    continue;
                }
                if (!holds(code[low], i)
                    || !isBelow(part(low, i), part(high, i), open, deep + 1)) {
                    return false;
                }
            }
            return true;
        }

        private boolean haveSameBound(int left, int right) {
            return isSame(first[left], first[right], 0);
        }

        private int joinOf(int left, int right, int open, int deep) {
            if (deep >= LEVELS) {
                return TOP_NODE;
            }
            int l = left;
            int r = right;
            // What is above a variable, and is not the variable, is above its bound.
            for (int i = 0; i <= 2 * open; i++) {
                if (isBelow(l, r, open, deep)) {
                    return r;
                }
                if (isBelow(r, l, open, deep)) {
                    return l;
                }
                if (isVariable(l)) {
                    l = boundOf(l, open);
                } else if (isVariable(r)) {
                    r = boundOf(r, open);
                } else {
                    return joinOfForms(l, r, open, deep);
                }
            }
            return TOP_NODE;
        }

        private int joinOfForms(int left, int right, int open, int deep) {
            if (areRecords(left, right)) {
                return make(code[left] & code[right],
                    joinOfParts(left, right, 0, open, deep),
                    joinOfParts(left, right, 1, open, deep),
                    joinOfParts(left, right, 2, open, deep));
            }
            if (code[left] != code[right]) {
                return TOP_NODE;
            }
            if (code[left] == FUNCTION) {
                int from = meetOf(first[left], first[right], open, deep + 1);
                if (from == NONE) {
                    return TOP_NODE;
                }
                int to = joinOf(second[left], second[right], open, deep + 1);
                return make(FUNCTION, from, to, TOP_NODE);
            }
            if (!haveSameBound(left, right) || !openOne(first[left], open)) {
                return TOP_NODE;
            }
            int body = joinOf(second[left], second[right], open + 1, deep + 1);
            return make(SCHEME, first[left], body, TOP_NODE);
        }

        private int joinOfParts(int left, int right, int label, int open, int deep) {
            if (!holds(code[left], label) || !holds(code[right], label)) {
                return TOP_NODE;
            }
            return joinOf(part(left, label), part(right, label), open, deep + 1);
        }

        private int meetOf(int left, int right, int open, int deep) {
            if (deep >= LEVELS) {
                return NONE;
            }
            if (isBelow(left, right, open, deep)) {
                return left;
            }
            if (isBelow(right, left, open, deep)) {
                return right;
            }
            // Below a variable are only variables, each in one chain with it.
            if (isVariable(left) || isVariable(right)) {
                return NONE;
            }
            return meetOfForms(left, right, open, deep);
        }

        private int meetOfForms(int left, int right, int open, int deep) {
            if (areRecords(left, right)) {
                return meetOfRecords(left, right, open, deep);
            }
            if (code[left] != code[right]) {
                return NONE;
            }
            if (code[left] == FUNCTION) {
                int to = meetOf(second[left], second[right], open, deep + 1);
                if (to == NONE) {
                    return NONE;
                }
                int from = joinOf(first[left], first[right], open, deep + 1);
                return make(FUNCTION, from, to, TOP_NODE);
            }
            if (!haveSameBound(left, right) || !openOne(first[left], open)) {
                return NONE;
            }
            int body = meetOf(second[left], second[right], open + 1, deep + 1);
            return body == NONE ? NONE : make(SCHEME, first[left], body, TOP_NODE);
        }

        private int meetOfRecords(int left, int right, int open, int deep) {
            int x = meetOfParts(left, right, 0, open, deep);
            int y = meetOfParts(left, right, 1, open, deep);
            int z = meetOfParts(left, right, 2, open, deep);
            if (x == NONE || y == NONE || z == NONE) {
                return NONE;
            }
            return make(code[left] | code[right], x, y, z);
        }

        private int meetOfParts(int left, int right, int label, int open, int deep) {
            if (!holds(code[left], label)) {
                return part(right, label);
            }
            if (!holds(code[right], label)) {
                return part(left, label);
            }
            return meetOf(part(left, label), part(right, label), open, deep + 1);
        }

        private void writeOn(Page page, int type, int open, int deep) {
            if (deep >= LEVELS) {
                return;
            }
            if (isVariable(type)) {
                page.put(nameOf(levelOf(type)));
            } else if (code[type] == FUNCTION) {
                page.put('(');
                writeOn(page, first[type], open, deep + 1);
                page.put('>');
                writeOn(page, second[type], open, deep + 1);
                page.put(')');
            } else if (code[type] == SCHEME) {
                page.put('<');
                page.put(nameOf(open));
                page.put(':');
                writeOn(page, first[type], open, deep + 1);
                page.put('>');
                writeOn(page, second[type], open + 1, deep + 1);
            } else if (isRecord(type)) {
                writeRecordOn(page, type, open, deep);
            } else {
                page.put('T');
            }
        }

        private void writeRecordOn(Page page, int type, int open, int deep) {
            page.put('[');
            boolean later = false;
            for (int i = 0; i < LABELS; i++) {
                if (holds(code[type], i)) {
                    if (later) {
                        page.put(',');
                    }
                    later = true;
                    page.put((char) ('x' + i));
                    writeOn(page, part(type, i), open, deep + 1);
                }
            }
            page.put(']');
        }

        private static char nameOf(int level) {
            return (char) (80 + level);
        }
    }

    /** The nodes of one term, the whole being node 0; a type in it is a node of the type room. */
    private static final class Term {
        private static final int VARIABLE = 0; // first: the node of the function that binds it
        private static final int FUNCTION = 1; // mark: open types; first: type; second: body
        private static final int APPLY = 2;    // first, second: the two terms
        private static final int GENERAL = 3;  // first: bound; second: body
        private static final int SPECIAL = 4;  // first: term; second: type
        private static final int RECORD = 5;   // mark: a bit for each label; then the terms
        private static final int SELECT = 6;   // mark: the label; first: term
        private static final int CHOICE = 7;   // mark: 0 or 1; first, second: the two terms

        private final int[] kind = new int[TEXT_LIMIT];
        private final int[] place = new int[TEXT_LIMIT];
        private final int[] mark = new int[TEXT_LIMIT];
        private final int[] first = new int[TEXT_LIMIT];
        private final int[] second = new int[TEXT_LIMIT];
        private final int[] third = new int[TEXT_LIMIT];
        private int count;

        /** A new node; each begins at a character of its own, so there is always room. */
        private int add(int newKind, int newPlace) {
            if (count >= TEXT_LIMIT) {
                return 0;
            }
            int node = count;
            count++;
            kind[node] = newKind;
            place[node] = newPlace;
            mark[node] = 0;
            first[node] = 0;
            second[node] = 0;
            third[node] = 0;
            return node;
        }

        private void fill(int node, int newMark, int x, int y, int z) {
            mark[node] = newMark;
            first[node] = x;
            second[node] = y;
            third[node] = z;
        }

        private boolean holds(int node, int label) {
            return (mark[node] >> label & 1) == 1;
        }

        private int part(int node, int i) {
            return i == 0 ? first[node] : i == 1 ? second[node] : third[node];
        }

        /** The first label of a record from FROM on, or LABELS when it has none there. */
        private int labelFrom(int node, int from) {
            int label = from;
            while (label < LABELS && !holds(node, label)) {
                label++;
            }
            return label;
        }
    }

    /**
     * Reads a text. A method that reads answers NONE when a character, or the end, can't stand
     * where it stands, and AT is that place then: all before it is the beginning of something.
     */
    private static final class Reader {
        private final TypeRoom room;
        private final char[] typeNames = new char[DEPTH_LIMIT];
        private final char[] names = new char[DEPTH_LIMIT];
        private final int[] binders = new int[DEPTH_LIMIT];
        private final char[] text;
        private Term term;
        private int length;
        private int at;
        private int openTypes;
        private int openNames;
        private int fault;
        private boolean closed;
        private boolean tooLarge;

        private Reader(TypeRoom room, char[] text, Term term) {
            this.room = room;
            this.text = text;
            this.term = term;
        }

        private int readWholeType(int newLength) {
            begin(newLength);
            int type = outerType(1);
            end(type);
            return type;
        }

        private void readWholeTerm(int newLength, Term newTerm) {
            begin(newLength);
            term = newTerm;
            term.count = 0;
            end(anyTerm(1));
        }

        private void begin(int newLength) {
            length = Math.min(newLength, text.length);
            at = 0;
            openTypes = 0;
            openNames = 0;
            closed = true;
            tooLarge = false;
        }

        private void end(int read) {
            fault = read == NONE || at < length ? at : NONE;
        }

        private char next() {
            return at < length ? text[at] : 0;
        }

        private boolean take(char c) {
            if (next() != c) {
                return false;
            }
            at++;
            return true;
        }

        private char takeBetween(char low, char high) {
            char c = next();
            if (c < low || c > high) {
                return 0;
            }
            at++;
            return c;
        }

        private int takeLabel(int lowest, int depth) {
            int label = next() - 'x';
            if (depth >= DEPTH_LIMIT || label < lowest || label >= LABELS) {
                return NONE;
            }
            at++;
            return label;
        }

        private void openType(char name) {
            if (openTypes < DEPTH_LIMIT) {
                typeNames[openTypes] = name;
            }
            openTypes++;
        }

        private void openName(char name, int binder) {
            if (openNames < DEPTH_LIMIT) {
                names[openNames] = name;
                binders[openNames] = binder;
            }
            openNames++;
        }

        private int levelOf(char name) {
            for (int level = Math.min(openTypes, DEPTH_LIMIT) - 1; level >= 0; level--) {
                if (typeNames[level] == name) {
                    return level;
                }
            }
            closed = false;
            return 0;
        }

        private int binderOf(char name) {
            for (int i = Math.min(openNames, DEPTH_LIMIT) - 1; i >= 0; i--) {
                if (names[i] == name) {
                    return binders[i];
                }
            }
            closed = false;
            return 0;
        }

        /** A type that is no part of another one. */
        private int outerType(int depth) {
            int type = anyType(depth);
            if (type != NONE && room.size[type] > SIZE_LIMIT) {
                tooLarge = true;
            }
            return type;
        }

        private int anyType(int depth) {
            if (take('T')) {
                return TypeRoom.TOP_NODE;
            }
            char name = takeBetween('P', 'S');
            if (name != 0) {
                return room.variable(levelOf(name));
            }
            if (depth > DEPTH_LIMIT) {
                return NONE;
            }
            if (take('[')) {
                return recordParts(true, NONE, depth);
            }
            if (depth == DEPTH_LIMIT) {
                return NONE;
            }
            if (take('(')) {
                return functionType(depth);
            }
            return take('<') ? schemeType(depth) : NONE;
        }

        private int functionType(int depth) {
            int from = anyType(depth + 1);
            if (from == NONE || !take('>')) {
                return NONE;
            }
            int to = anyType(depth + 1);
            if (to == NONE || !take(')')) {
                return NONE;
            }
            return room.make(TypeRoom.FUNCTION, from, to, TypeRoom.TOP_NODE);
        }

        private int schemeType(int depth) {
            char name = takeBetween('P', 'S');
            if (name == 0 || !take(':')) {
                return NONE;
            }
            int bound = anyType(depth + 1);
            if (bound == NONE || !take('>')) {
                return NONE;
            }
            openType(name);
            int body = anyType(depth + 1);
            openTypes--;
            return body == NONE ? NONE : room.make(TypeRoom.SCHEME, bound, body, TypeRoom.TOP_NODE);
        }

        /** A record or a record type, the opening sign being taken; NODE is the record's own. */
        private int recordParts(boolean ofTypes, int node, int depth) {
            char end = ofTypes ? ']' : '}';
            int mark = 0;
            int x = 0;
            int y = 0;
            int z = 0;
            int lowest = 0;
            boolean ended = take(end);
            for (int i = 0; i < LABELS && !ended; i++) {
                int label = takeLabel(lowest, depth);
                int part = label == NONE ? NONE : recordPart(ofTypes, depth);
                if (part == NONE) {
                    return NONE;
                }
                mark |= 1 << label;
                x = label == 0 ? part : x;
                y = label == 1 ? part : y;
                z = label == 2 ? part : z;
                lowest = label + 1;
                ended = take(end);
                // Behind the last of all labels none can follow, so a comma can't stand there.
                if (!ended && (lowest >= LABELS || !take(','))) {
                    return NONE;
                }
            }
            if (ofTypes) {
                return room.make(TypeRoom.RECORD + mark, x, y, z);
            }
            term.fill(node, mark, x, y, z);
            return node;
        }

        private int recordPart(boolean ofTypes, int depth) {
            if (ofTypes) {
                return anyType(depth + 1);
            }
            return take('=') ? anyTerm(depth + 1) : NONE;
        }

        private int anyTerm(int depth) {
            int place = at;
            char name = takeBetween('a', 'd');
            if (name != 0) {
                int node = term.add(Term.VARIABLE, place);
                term.fill(node, 0, binderOf(name), 0, 0);
                return node;
            }
            if (depth > DEPTH_LIMIT) {
                return NONE;
            }
            if (take('{')) {
                return recordParts(false, term.add(Term.RECORD, place), depth);
            }
            return depth == DEPTH_LIMIT ? NONE : holdingTerm(place, depth);
        }

        private int holdingTerm(int place, int depth) {
            if (take('\\')) {
                return function(term.add(Term.FUNCTION, place), depth);
            }
            if (take('(')) {
                return application(term.add(Term.APPLY, place), depth);
            }
            if (take('/')) {
                return general(term.add(Term.GENERAL, place), depth);
            }
            if (take('@')) {
                return special(term.add(Term.SPECIAL, place), depth);
            }
            if (take('.')) {
                return selection(term.add(Term.SELECT, place), depth);
            }
            return take('?') ? choice(term.add(Term.CHOICE, place), depth) : NONE;
        }

        private int function(int node, int depth) {
            char name = takeBetween('a', 'd');
            if (name == 0 || !take(':')) {
                return NONE;
            }
            int type = outerType(depth + 1);
            if (type == NONE || !take('.')) {
                return NONE;
            }
            openName(name, node);
            int body = anyTerm(depth + 1);
            openNames--;
            term.fill(node, openTypes, type, body, 0);
            return body == NONE ? NONE : node;
        }

        private int application(int node, int depth) {
            int left = anyTerm(depth + 1);
            int right = left == NONE ? NONE : anyTerm(depth + 1);
            if (right == NONE || !take(')')) {
                return NONE;
            }
            term.fill(node, 0, left, right, 0);
            return node;
        }

        private int general(int node, int depth) {
            char name = takeBetween('P', 'S');
            if (name == 0 || !take(':')) {
                return NONE;
            }
            int bound = outerType(depth + 1);
            if (bound == NONE || !take('.')) {
                return NONE;
            }
            openType(name);
            int body = anyTerm(depth + 1);
            openTypes--;
            term.fill(node, 0, bound, body, 0);
            return body == NONE ? NONE : node;
        }

        private int special(int node, int depth) {
            int general = anyTerm(depth + 1);
            int type = general == NONE ? NONE : outerType(depth + 1);
            term.fill(node, 0, general, type, 0);
            return type == NONE ? NONE : node;
        }

        private int selection(int node, int depth) {
            int label = takeLabel(0, depth);
            int whole = label == NONE ? NONE : anyTerm(depth + 1);
            term.fill(node, label, whole, 0, 0);
            return whole == NONE ? NONE : node;
        }

        private int choice(int node, int depth) {
            char which = takeBetween('0', '1');
            int left = which == 0 ? NONE : anyTerm(depth + 1);
            int right = left == NONE ? NONE : anyTerm(depth + 1);
            term.fill(node, which - '0', left, right, 0);
            return right == NONE ? NONE : node;
        }
    }

    /** Finds the least type of a term, or the first place where a rule is broken. */
    private static final class Checker {
        private final TypeRoom room;
        private Term term;
        private int breakPlace;

        private Checker(TypeRoom room, Term term) {
            this.room = room;
            this.term = term;
        }

        private void begin(Term newTerm) {
            term = newTerm;
            breakPlace = NONE;
        }

        /** The least type of the term at a node; NONE when it, or a term in it, has none. */
        private int find(int node, int open, int depth) {
            if (depth > DEPTH_LIMIT) {
                return NONE;
            }
            int type = findByRule(node, open, depth);
            if (breakPlace != NONE) {
                return NONE;
            }
            if (type == NONE || room.size[type] > SIZE_LIMIT) {
                breakPlace = term.place[node];
                return NONE;
            }
            return type;
        }

        private int findByRule(int node, int open, int depth) {
            switch (term.kind[node]) {
                case Term.VARIABLE:
                    return ofVariable(node, open);
                case Term.FUNCTION:
                    return ofFunction(node, open, depth);
                case Term.APPLY:
                    return ofApplication(node, open, depth);
                case Term.GENERAL:
                    return ofGeneral(node, open, depth);
                case Term.SPECIAL:
                    return ofSpecial(node, open, depth);
                case Term.RECORD:
                    return ofRecord(node, open, depth);
                case Term.SELECT:
                    return ofSelection(node, open, depth);
                default:
                    return ofChoice(node, open, depth);
            }
        }

        private int ofVariable(int node, int open) {
            int binder = term.first[node];
            int openThere = term.mark[binder];
            return room.lift(term.first[binder], openThere, open - openThere, 0);
        }

        private int ofFunction(int node, int open, int depth) {
            int to = find(term.second[node], open, depth + 1);
            if (to == NONE) {
                return NONE;
            }
            return room.make(TypeRoom.FUNCTION, term.first[node], to, TypeRoom.TOP_NODE);
        }

        private int ofApplication(int node, int open, int depth) {
            int left = find(term.first[node], open, depth + 1);
            int right = left == NONE ? NONE : find(term.second[node], open, depth + 1);
            if (right == NONE) {
                return NONE;
            }
            int form = room.exposed(left, open);
            if (room.code[form] != TypeRoom.FUNCTION
                || !room.isBelow(right, room.first[form], open, 0)) {
                return NONE;
            }
            return room.second[form];
        }

        private int ofGeneral(int node, int open, int depth) {
            int bound = term.first[node];
            if (!room.openOne(bound, open)) {
                return NONE;
            }
            int body = find(term.second[node], open + 1, depth + 1);
            return body == NONE ? NONE : room.make(TypeRoom.SCHEME, bound, body, TypeRoom.TOP_NODE);
        }

        private int ofSpecial(int node, int open, int depth) {
            int whole = find(term.first[node], open, depth + 1);
            if (whole == NONE) {
                return NONE;
            }
            int argument = term.second[node];
            int form = room.exposed(whole, open);
            if (room.code[form] != TypeRoom.SCHEME
                || !room.isBelow(argument, room.first[form], open, 0)) {
                return NONE;
            }
            return room.replace(room.second[form], open, argument, 0, 0);
        }

        private int ofRecord(int node, int open, int depth) {
            int x = ofPart(node, 0, open, depth);
            int y = x == NONE ? NONE : ofPart(node, 1, open, depth);
            int z = y == NONE ? NONE : ofPart(node, 2, open, depth);
            return z == NONE ? NONE : room.make(TypeRoom.RECORD + term.mark[node], x, y, z);
        }

        private int ofPart(int node, int label, int open, int depth) {
            if (!term.holds(node, label)) {
                return TypeRoom.TOP_NODE;
            }
            return find(term.part(node, label), open, depth + 1);
        }

        private int ofSelection(int node, int open, int depth) {
            int whole = find(term.first[node], open, depth + 1);
            if (whole == NONE) {
                return NONE;
            }
            int form = room.exposed(whole, open);
            int label = term.mark[node];
            boolean found = room.isRecord(form) && TypeRoom.holds(room.code[form], label);
            return found ? room.part(form, label) : NONE;
        }

        private int ofChoice(int node, int open, int depth) {
            int left = find(term.first[node], open, depth + 1);
            int right = left == NONE ? NONE : find(term.second[node], open, depth + 1);
            return right == NONE ? NONE : room.joinOf(left, right, open, 0);
        }
    }

    /** The values of one run: each has the node that made it, and its scope or its parts. */
    private static final class Values {
        // Each value that a body makes takes up three characters of the text or more.
        private static final int MOST = Machine.BODIES * 20;
        private static final int FIRST = 16;

        private int[] node = new int[FIRST];
        private int[] x = new int[FIRST]; // the scope, if the value is no record
        private int[] y = new int[FIRST];
        private int[] z = new int[FIRST];
        private int count;

        private int make(int newNode, int newX) {
            if (count >= node.length && !grow()) {
                return NONE;
            }
            int made = count;
            count++;
            node[made] = newNode;
            x[made] = newX;
            y[made] = NONE;
            z[made] = NONE;
            return made;
        }

        private boolean grow() {
            int most = Math.min(2 * node.length, MOST);
            if (most <= node.length) {
                return false;
            }
            node = Arrays.copyOf(node, most);
            x = Arrays.copyOf(x, most);
            y = Arrays.copyOf(y, most);
            z = Arrays.copyOf(z, most);
            return true;
        }

        private int part(int value, int label) {
            return label == 0 ? x[value] : label == 1 ? y[value] : z[value];
        }

        private void setPart(int value, int label, int part) {
            if (label == 0) {
                x[value] = part;
            } else if (label == 1) {
                y[value] = part;
            } else {
                z[value] = part;
            }
        }
    }

    /**
     * Runs a term to its end at once, as no later call can change a run, and counts the steps.
     * Values are shared instead of being copied into terms: a written-out one could be too large.
     */
    private static final class Machine {
        // A step brings in one body, so 61 bodies are run at the most, the term itself included.
        private static final int BODIES = STEP_LIMIT + 1;
        private static final int MOST_FRAMES = BODIES * DEPTH_LIMIT;
        private static final int FIRST_FRAMES = 8;
        private static final int MOVES = 1000000;

        private int[] frameNode = new int[FIRST_FRAMES];
        private int[] frameScope = new int[FIRST_FRAMES];
        private int[] frameValue = new int[FIRST_FRAMES];
        private int[] frameLabel = new int[FIRST_FRAMES];
        private final int[] scopeBinder = new int[BODIES];
        private final int[] scopeValue = new int[BODIES];
        private final int[] scopeOuter = new int[BODIES];
        private final Values values = new Values();
        private Term term;
        private int frames;
        private int scopes;
        private int node;
        private int scope;
        private int current;
        private boolean stopped;
        private int steps;
        private int result;

        private Machine(Term term) {
            this.term = term;
        }

        private void run(Term newTerm) {
            term = newTerm;
            frames = 0;
            values.count = 0;
            scopes = 0;
            steps = 0;
            stopped = false;
            result = NONE;
            goTo(0, NONE);
            for (int move = 0; move < MOVES && !stopped; move++) {
                if (current == NONE) {
                    enter();
                } else if (frames > 0) {
                    goOn(frames - 1);
                } else {
                    result = current;
                    stopped = true;
                }
            }
        }

        private void goTo(int newNode, int newScope) {
            node = newNode;
            scope = newScope;
            current = NONE;
        }

        private boolean countStep() {
            if (steps >= STEP_LIMIT) {
                stopped = true;
                return false;
            }
            steps++;
            return true;
        }

        private void enter() {
            switch (term.kind[node]) {
                case Term.VARIABLE:
                    current = valueOf(term.first[node]);
                    stopped = current == NONE;
                    break;
                case Term.FUNCTION:
                case Term.GENERAL:
                    current = values.make(node, scope);
                    stopped = current == NONE;
                    break;
                case Term.RECORD:
                    enterRecord();
                    break;
                case Term.CHOICE:
                    if (countStep()) {
                        goTo(term.mark[node] == 0 ? term.first[node] : term.second[node], scope);
                    }
                    break;
                default:
                    push(NONE, 0);
                    goTo(term.first[node], scope);
                    break;
            }
        }

        private void enterRecord() {
            int made = values.make(node, NONE);
            int label = term.labelFrom(node, 0);
            if (made == NONE) {
                stopped = true;
            } else if (label < LABELS) {
                push(made, label);
                goTo(term.part(node, label), scope);
            } else {
                current = made;
            }
        }

        private int valueOf(int binder) {
            int found = scope;
            for (int i = 0; i < BODIES && found >= 0 && found < scopes; i++) {
                if (scopeBinder[found] == binder) {
                    return scopeValue[found];
                }
                found = scopeOuter[found];
            }
            return NONE;
        }

        private void push(int value, int label) {
            if (frames >= frameNode.length && !grow()) {
                stopped = true;
                return;
            }
            frameNode[frames] = node;
            frameScope[frames] = scope;
            frameValue[frames] = value;
            frameLabel[frames] = label;
            frames++;
        }

        private boolean grow() {
            int most = Math.min(2 * frameNode.length, MOST_FRAMES);
            if (most <= frameNode.length) {
                return false;
            }
            frameNode = Arrays.copyOf(frameNode, most);
            frameScope = Arrays.copyOf(frameScope, most);
            frameValue = Arrays.copyOf(frameValue, most);
            frameLabel = Arrays.copyOf(frameLabel, most);
            return true;
        }

        /** Goes on in a term of which a part has come to the current value. */
        private void goOn(int frame) {
            int whole = frameNode[frame];
            switch (term.kind[whole]) {
                case Term.APPLY:
                    goOnApplication(frame);
                    break;
                case Term.SPECIAL:
                    frames--;
                    if (isOfKind(current, Term.GENERAL) && countStep()) {
                        goTo(term.second[values.node[current]], values.x[current]);
                    }
                    break;
                case Term.SELECT:
                    frames--;
                    if (isOfKind(current, Term.RECORD) && countStep()) {
                        current = values.part(current, term.mark[whole]);
                        stopped = current == NONE;
                    }
                    break;
                default:
                    goOnRecord(frame);
                    break;
            }
        }

        // A term that has a type never comes to a value of another kind; if one did, it would stop.
        private boolean isOfKind(int value, int kind) {
            stopped = term.kind[values.node[value]] != kind;
            return !stopped;
        }

        private void goOnApplication(int frame) {
            int function = frameValue[frame];
            if (function == NONE) {
                frameValue[frame] = current;
                goTo(term.second[frameNode[frame]], frameScope[frame]);
                return;
            }
            frames--;
            if (isOfKind(function, Term.FUNCTION) && countStep()) {
                int binder = values.node[function];
                goTo(term.second[binder], newScope(binder, current, values.x[function]));
            }
        }

        private int newScope(int binder, int value, int outer) {
            if (scopes >= BODIES) {
                stopped = true;
                return NONE;
            }
            int made = scopes;
            scopes++;
            scopeBinder[made] = binder;
            scopeValue[made] = value;
            scopeOuter[made] = outer;
            return made;
        }

        private void goOnRecord(int frame) {
            int made = frameValue[frame];
            int whole = frameNode[frame];
            values.setPart(made, frameLabel[frame], current);
            int label = term.labelFrom(whole, frameLabel[frame] + 1);
            if (label < LABELS) {
                frameLabel[frame] = label;
                goTo(term.part(whole, label), frameScope[frame]);
            } else {
                frames--;
                current = made;
            }
        }

        private void writeOn(Page page, int value, int deep) {
            if (value == NONE || deep >= LEVELS || page.isOver()) {
                return;
            }
            int kind = term.kind[values.node[value]];
            if (kind == Term.FUNCTION) {
                page.put('f');
            } else if (kind == Term.GENERAL) {
                page.put('g');
            } else {
                writeRecordOn(page, value, deep);
            }
        }

        private void writeRecordOn(Page page, int value, int deep) {
            page.put('{');
            boolean later = false;
            for (int i = 0; i < LABELS; i++) {
                if (term.holds(values.node[value], i)) {
                    if (later) {
                        page.put(',');
                    }
                    later = true;
                    page.put((char) ('x' + i));
                    page.put('=');
                    writeOn(page, values.part(value, i), deep + 1);
                }
            }
            page.put('}');
        }
    }

    /** What is written is a draft first, so that one that is too long leaves the page as it is. */
    private static final class Page {
        private final char[] shown = new char[PAGE_LIMIT];
        private final char[] draft = new char[PAGE_LIMIT];
        private int count;
        private int drafted;

        private void begin() {
            drafted = 0;
        }

        private void put(char c) {
            if (drafted < PAGE_LIMIT) {
                draft[drafted] = c;
            }
            drafted++;
        }

        private boolean isOver() {
            return drafted > PAGE_LIMIT;
        }

        private int show() {
            if (isOver()) {
                return FULL;
            }
            for (int i = 0; i < drafted; i++) {
                shown[i] = draft[i];
            }
            count = drafted;
            return count;
        }
    }
}
