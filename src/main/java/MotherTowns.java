import java.util.Arrays;

public final class MotherTowns {
    public static final int BAD = -1, NOT = -2, FULL = -3, STATE = -5, VOID = -2000000000;

    private static final int NOTHING_THERE = -11, OTHER_KIND = -12, NO_PLACE = -13, NO_SIZE = -14;
    private static final int CHARTERS = 12, CLAUSES = 16, FORMS = 4, TORN = 9;
    private static final int INVENT = 0, DROP = 1, TURN = 2, BORROW_CLAUSE = 3, BORROW_CHAPTER = 4, COSTS = 5;
    private static final int ROOT_DIGIT = 9, SHELVES = 6;

    private final Tape tape;
    private final Charters charters;
    private final Tree tree;
    private final Fillings fillings;
    private final BestTrees bestTrees;
    private final Clashes clashes;
    private final Claims claims;
    private final Paths paths;
    private final Shelf[] shelves;

    public MotherTowns() {
        tape = new Tape();
        charters = new Charters();
        tree = new Tree();
        fillings = new Fillings(charters, tree);
        bestTrees = new BestTrees(charters);
        clashes = new Clashes(charters);
        claims = new Claims(charters);
        paths = new Paths();
        shelves = new Shelf[SHELVES];
        for (int i = 0; i < SHELVES; i++) {
            shelves[i] = new Shelf();
        }
    }

    // ---- charters

    public int feed(int n, int v) {
        return n < 1 || n > 4 ? BAD : tape.take(n, v);
    }

    public int charter() {
        if (charters.count >= CHARTERS) {
            return FULL;
        }
        int fault = tape.read(charters.count);
        tape.used = 0;
        if (fault >= 0) {
            return -100 - fault;
        }
        return charters.add(tape.first, tape.last, tape.says, tape.form);
    }

    public int lost() {
        return charters.count >= CHARTERS ? FULL : charters.addLost();
    }

    public int ofCharter(int charter, int what) {
        if (!charters.has(charter)) {
            return BAD;
        }
        switch (what) {
            case 0:
                return charters.first[charter];
            case 1:
                return charters.last[charter];
            case 2:
                return charters.says[charter];
            case 3:
                return charters.lost[charter];
            default:
                return what >= 10 && what < 10 + CLAUSES ? charters.told(charter, what - 10) : BAD;
        }
    }

    public int form(int charter, int clause, int v) {
        if (!charters.has(charter) || !isClause(clause) || !isForm(v)) {
            return BAD;
        }
        return charters.change(charters.formCell(charter, clause), v);
    }

    public int forms(int charter, int shelf, int i, int n) {
        if (!charters.has(charter) || !isShelf(shelf) || n < 1 || n > CLAUSES) {
            return BAD;
        }
        Shelf from = shelves[shelf];
        if (from.holds == Shelf.EMPTY) {
            return 0;
        }
        if (from.holds != Shelf.ROW || from.sort != Shelf.BYTES) {
            return OTHER_KIND;
        }
        int taken = 0;
        while (taken < n && from.hasPlace((long) i + taken)) {
            int v = (int) from.cells[i + taken];
            if (!isForm(v)) {
                break;
            }
            charters.change(charters.formCell(charter, taken), v);
            taken++;
        }
        return taken;
    }

    public int price(int which, int v) {
        if (which < 0 || which >= COSTS || v < 0 || v > 99) {
            return BAD;
        }
        return charters.change(charters.costCell(which), v);
    }

    public int same(int charter, int other, int what) {
        if (!charters.has(charter) || !charters.has(other) || what < 0 || what > 2) {
            return BAD;
        }
        int bits = 0;
        for (int clause = 0; clause < CLAUSES; clause++) {
            int one = charters.told(charter, clause);
            int two = charters.told(other, clause);
            int is = one == TORN || two == TORN ? 2 : one == two ? 0 : 1;
            if (is == what) {
                bits |= 1 << clause;
            }
        }
        return bits;
    }

    // ---- the tree

    public int mother(int charter, int mother) {
        if (!charters.has(charter) || mother != -1 && !charters.has(mother) || charter == mother) {
            return VOID;
        }
        if (charters.isUnder(mother, charter)) {
            return NOT;
        }
        return charters.change(charters.motherCell(charter), mother);
    }

    public int cost(int clause) {
        if (clause != -1 && !isClause(clause)) {
            return BAD;
        }
        tree.growAsTold(charters);
        int sum = 0;
        for (int i = 0; i < CLAUSES; i++) {
            if (clause == -1 || clause == i) {
                tree.write(charters, i);
                sum += tree.least();
            }
        }
        return sum;
    }

    public int filled(int charter, int clause) {
        if (!charters.has(charter) || !isClause(clause)) {
            return BAD;
        }
        int told = charters.told(charter, clause);
        return told != TORN ? 1 << told : fillings.burntForms(charter, clause);
    }

    public int days(int charter, int what) {
        if (!charters.has(charter) || what < 0 || what > 2) {
            return BAD;
        }
        tree.growAsTold(charters);
        int late = tree.firstLate();
        if (what == 2) {
            return late < 0 ? NOT : late;
        }
        if (late >= 0) {
            return NOT;
        }
        return what == 0 ? tree.earliest[charter] : tree.latestOf(charter);
    }

    // ---- best trees

    public int list(int charter) {
        if (!charters.has(charter) || bestTrees.placeOf(charter) >= 0) {
            return BAD;
        }
        return bestTrees.listed >= BestTrees.MOST ? FULL : bestTrees.tell(charter);
    }

    public int unlist() {
        return bestTrees.forget();
    }

    public int best(int what) {
        if (what < 0 || what > 4) {
            return BAD;
        }
        if (bestTrees.listed < 2) {
            return STATE;
        }
        if (what == 3) {
            return bestTrees.bound();
        }
        bestTrees.find();
        if (bestTrees.found == 0) {
            return NOT;
        }
        switch (what) {
            case 0:
                return bestTrees.least;
            case 1:
                return bestTrees.found;
            case 2:
                return bestTrees.sure();
            default:
                return bestTrees.least - bestTrees.bound();
        }
    }

    public int tree(int i, int place) {
        if (i < 0 || place < 0 || place >= bestTrees.listed) {
            return BAD;
        }
        if (bestTrees.listed < 2) {
            return STATE;
        }
        bestTrees.find();
        if (bestTrees.found == 0) {
            return NOT;
        }
        return i >= bestTrees.found ? BAD : bestTrees.motherPlace(i, place);
    }

    public int never(int place) {
        if (place < 0 || place >= bestTrees.listed) {
            return BAD;
        }
        if (bestTrees.listed < 2) {
            return STATE;
        }
        bestTrees.find();
        return bestTrees.found == 0 ? NOT : bestTrees.neverMothers(place);
    }

    public int claim(int charter) {
        if (!charters.has(charter) || charters.says[charter] < 0) {
            return BAD;
        }
        int child = bestTrees.placeOf(charter);
        int mother = bestTrees.placeOf(charters.says[charter]);
        if (child < 0 || mother < 0) {
            return BAD;
        }
        bestTrees.find();
        return bestTrees.found == 0 ? NOT : bestTrees.borneOut(child, mother);
    }

    // ---- borrowings, clashes

    public int few(int k) {
        return k < 0 || k > Fillings.MOST ? BAD : fillings.leastWith(k);
    }

    public int from(int charter, int clause) {
        return !charters.has(charter) || !isClause(clause) ? BAD : fillings.lender(charter, clause);
    }

    public int pairs(int i) {
        return i < -1 ? BAD : clashes.pair(i);
    }

    public int freed() {
        return clashes.fewestOut();
    }

    // ---- claims, burnt towns, slips

    public int doubt(int what) {
        if (what < 0 || what > 1) {
            return BAD;
        }
        int out = claims.fewestOut();
        return what == 0 ? Integer.bitCount(out) : out;
    }

    public int law(int charter, int clause) {
        return !charters.has(charter) || !isClause(clause) ? BAD : fillings.burntForms(charter, clause);
    }

    public int cameIn(int charter, int clause) {
        return !charters.has(charter) || !isClause(clause) ? BAD : fillings.source(charter, clause);
    }

    public int slip(int from, int to) {
        return !Slips.isNumber(from) || !Slips.isNumber(to) ? BAD : Slips.kind(from, to);
    }

    public int chain(int from, int to) {
        return !Slips.isNumber(from) || !Slips.isNumber(to) ? BAD : Slips.fewest(from, to);
    }

    public int undo() {
        return charters.back();
    }

    public int redo() {
        return charters.forth();
    }

    public int digest() {
        int v = 7;
        for (int charter = 0; charter < charters.count; charter++) {
            v = v * 31 + charters.motherOf(charter) + 1;
            for (int clause = 0; clause < CLAUSES; clause++) {
                v = v * 31 + charters.told(charter, clause);
            }
        }
        for (int which = 0; which < COSTS; which++) {
            v = v * 31 + charters.costOf(which);
        }
        return v;
    }

    // ---- paths: acts, shelves

    public int path(int kind, int charter) {
        if (!Paths.isKind(kind) || !charters.has(charter)) {
            return BAD;
        }
        return paths.count >= Paths.MOST ? FULL : paths.add(kind, charter);
    }

    public int act(int path, int act, int x) {
        paths.bodies = 0;
        return paths.has(path) ? paths.perform(path, act, x) : 0;
    }

    public int trace(int i) {
        return i < 0 || i >= paths.bodies || i >= Paths.KEPT ? BAD : paths.trace[i];
    }

    public int keep(int shelf, int path) {
        if (!isShelf(shelf) || path != -1 && !paths.has(path)) {
            return BAD;
        }
        shelves[shelf].keepPath(path);
        return 1;
    }

    public int row(int shelf, int sort, int n) {
        if (!isShelf(shelf) || sort < Shelf.BYTES || sort > Shelf.BOOLEANS || n > Shelf.MOST) {
            return BAD;
        }
        if (n < 0) {
            return NO_SIZE;
        }
        shelves[shelf].keepRow(sort, n);
        return 1;
    }

    public int put(int shelf, int i, long v) {
        int refusal = elementRefusal(shelf, i);
        if (refusal != 0) {
            return refusal;
        }
        shelves[shelf].cells[i] = shelves[shelf].lowest(v);
        return 1;
    }

    public long element(int shelf, int i) {
        return elementRefusal(shelf, i) != 0 ? Long.MIN_VALUE : shelves[shelf].cells[i];
    }

    public int shift(int shelf, int i, int other, int j, int n) {
        if (!isShelf(shelf) || !isShelf(other)) {
            return BAD;
        }
        Shelf one = shelves[shelf];
        Shelf two = shelves[other];
        if (one.holds == Shelf.EMPTY || two.holds == Shelf.EMPTY) {
            return NOTHING_THERE;
        }
        if (one.holds != Shelf.ROW || two.holds != Shelf.ROW || one.sort != two.sort) {
            return OTHER_KIND;
        }
        if (!one.hasPlaces(i, n) || !two.hasPlaces(j, n)) {
            return NO_PLACE;
        }
        System.arraycopy(one.cells, i, two.cells, j, n);
        return n;
    }

    public int taken(int shelf, int k) {
        if (!isShelf(shelf) || !Paths.isKind(k)) {
            return BAD;
        }
        Shelf from = shelves[shelf];
        if (from.holds == Shelf.EMPTY) {
            return NOTHING_THERE;
        }
        if (from.holds != Shelf.PATH || !paths.has(from.path)) {
            return OTHER_KIND;
        }
        int kind = paths.kinds[from.path];
        return Paths.isUnder(kind, k) ? kind : OTHER_KIND;
    }

    public int count(int what) {
        switch (what) {
            case 0:
                return charters.count;
            case 1:
                return tape.used;
            case 2:
                return bestTrees.listed;
            case 3:
                return charters.undoable;
            case 4:
                return paths.count;
            case 5:
                return paths.bodies;
            default:
                return BAD;
        }
    }

    private static boolean isClause(int clause) {
        return clause >= 0 && clause < CLAUSES;
    }

    private static boolean isForm(int v) {
        return v >= 0 && v < FORMS || v == TORN;
    }

    private static boolean isShelf(int shelf) {
        return shelf >= 0 && shelf < SHELVES;
    }

    private int elementRefusal(int shelf, int i) {
        if (!isShelf(shelf)) {
            return BAD;
        }
        Shelf from = shelves[shelf];
        if (from.holds == Shelf.EMPTY) {
            return NOTHING_THERE;
        }
        if (from.holds != Shelf.ROW) {
            return OTHER_KIND;
        }
        return from.hasPlace(i) ? 0 : NO_PLACE;
    }

    /** The bytes that were fed, and the text that they are read as. */
    private static final class Tape {
        private static final int LENGTH = 120;

        private final int[] bytes = new int[LENGTH];
        int used;
        int first;
        int last;
        int says;
        final int[] form = new int[CLAUSES];
        private int at;

        int take(int n, int v) {
            if (used + n > LENGTH) {
                return FULL;
            }
            for (int i = 0; i < n; i++) {
                bytes[used] = v >> 8 * i & 255;
                used++;
            }
            return used;
        }

        /** The place of the fault; -1 if the whole tape is a text. */
        int read(int charters) {
            at = 0;
            says = -1;
            Arrays.fill(form, TORN);
            int fault = readDays();
            if (fault < 0) {
                fault = readClauses();
            }
            if (fault < 0) {
                fault = readMother(charters);
            }
            return fault < 0 && at < used ? at : fault;
        }

        private int readDays() {
            first = number(3);
            if (first < 0) {
                return at;
            }
            last = first;
            if (sign() != '-') {
                return -1;
            }
            at++;
            int start = at;
            last = number(3);
            return last < first ? start : -1;
        }

        private int readClauses() {
            int told = 0;
            for (int i = 0; i <= CLAUSES && sign() == ','; i++) {
                at++;
                int clause = sign() - 'a';
                if (!isClause(clause) || (told >> clause & 1) != 0) {
                    return at;
                }
                told |= 1 << clause;
                at++;
                int v = sign() == '?' ? TORN : sign() - '0';
                if (!isForm(v) || sign() == '9') {
                    return at;
                }
                form[clause] = v;
                at++;
            }
            return -1;
        }

        private int readMother(int charters) {
            if (sign() != '<') {
                return -1;
            }
            at++;
            int start = at;
            says = number(2);
            return says < 0 || says >= charters ? start : -1;
        }

        /** The byte to read next; -1 behind the last one. */
        private int sign() {
            return at >= 0 && at < used && at < LENGTH ? bytes[at] : -1;
        }

        /** At most so many digits as a number; -1 where none stands. */
        private int number(int most) {
            int value = -1;
            for (int i = 0; i < most && sign() >= '0' && sign() <= '9'; i++) {
                value = Math.max(value, 0) * 10 + sign() - '0';
                at++;
            }
            return value;
        }
    }

    /** What is told: the charters, and in one row of cells all that can be changed and undone. */
    private static final class Charters {
        private static final int COSTS_AT = CHARTERS * CLAUSES;
        private static final int MOTHERS_AT = COSTS_AT + COSTS;
        private static final int KEPT = 40;

        int count;
        final int[] first = new int[CHARTERS];
        final int[] last = new int[CHARTERS];
        final int[] says = new int[CHARTERS];
        final int[] lost = new int[CHARTERS];
        private final int[] cells = new int[MOTHERS_AT + CHARTERS];
        private final int[] changed = new int[KEPT];
        private final int[] before = new int[KEPT];
        private final int[] after = new int[KEPT];
        private final int[] torn = new int[CLAUSES];
        int undoable;
        private int redoable;
        /** Grows with each change, so that what was found can be told from what is stale. */
        int version;

        Charters() {
            cells[COSTS_AT + INVENT] = 10;
            cells[COSTS_AT + DROP] = 4;
            cells[COSTS_AT + TURN] = 6;
            cells[COSTS_AT + BORROW_CLAUSE] = 5;
            cells[COSTS_AT + BORROW_CHAPTER] = 8;
            Arrays.fill(torn, TORN);
        }

        boolean has(int charter) {
            return charter >= 0 && charter < count;
        }

        int add(int firstDay, int lastDay, int mother, int[] form) {
            int charter = count;
            first[charter] = firstDay;
            last[charter] = lastDay;
            says[charter] = mother;
            System.arraycopy(form, 0, cells, formCell(charter, 0), CLAUSES);
            cells[motherCell(charter)] = -1;
            count++;
            return charter;
        }

        int addLost() {
            int charter = add(0, 999, -1, torn);
            lost[charter] = 1;
            return charter;
        }

        int formCell(int charter, int clause) {
            return charter * CLAUSES + clause;
        }

        int costCell(int which) {
            return COSTS_AT + which;
        }

        int motherCell(int charter) {
            return MOTHERS_AT + charter;
        }

        int told(int charter, int clause) {
            return cells[formCell(charter, clause)];
        }

        int costOf(int which) {
            return cells[costCell(which)];
        }

        int motherOf(int charter) {
            return cells[MOTHERS_AT + charter];
        }

        /** Whether a charter is one that is told, or stands under it in the tree. */
        boolean isUnder(int charter, int top) {
            int x = charter;
            for (int i = 0; i < CHARTERS && x >= 0; i++) {
                if (x == top) {
                    return true;
                }
                x = motherOf(x);
            }
            return false;
        }

        /** What the cell held; a value that it holds already is no change, and nothing to undo. */
        int change(int cell, int v) {
            int was = cells[cell];
            if (was == v) {
                return was;
            }
            if (undoable >= KEPT) {
                dropOldest();
            }
            changed[undoable] = cell;
            before[undoable] = was;
            after[undoable] = v;
            undoable++;
            redoable = 0;
            cells[cell] = v;
            version++;
            return was;
        }

        private void dropOldest() {
            System.arraycopy(changed, 1, changed, 0, KEPT - 1);
            System.arraycopy(before, 1, before, 0, KEPT - 1);
            System.arraycopy(after, 1, after, 0, KEPT - 1);
            undoable = KEPT - 1;
        }

        int back() {
            if (undoable <= 0) {
                return STATE;
            }
            undoable--;
            redoable++;
            cells[changed[undoable]] = before[undoable];
            version++;
            return undoable;
        }

        int forth() {
            if (redoable <= 0 || undoable >= KEPT) {
                return STATE;
            }
            cells[changed[undoable]] = after[undoable];
            undoable++;
            redoable--;
            version++;
            return redoable;
        }
    }

    /** A tree of some charters by places: its days, and for one clause at a time what it costs and how it is filled. */
    private static final class Tree {
        /** Above every sum of costs that can be, and far from wrapping when twelve are added. */
        private static final int FAR = 1 << 24;

        int size;
        final int[] mother = new int[CHARTERS];
        final int[] first = new int[CHARTERS];
        final int[] last = new int[CHARTERS];
        final int[] earliest = new int[CHARTERS];
        final int[] form = new int[CHARTERS];
        private final int[] latest = new int[CHARTERS];
        private final int[] order = new int[CHARTERS];
        private final int[] step = new int[FORMS * FORMS];
        /** By a charter and its form: the least of all under it; of all besides; of all from its mother of that form. */
        private final int[] below = new int[CHARTERS * FORMS];
        private final int[] beside = new int[CHARTERS * FORMS];
        private final int[] branch = new int[CHARTERS * FORMS];

        void growAsTold(Charters charters) {
            size = charters.count;
            for (int v = 0; v < size; v++) {
                mother[v] = charters.motherOf(v);
                first[v] = charters.first[v];
                last[v] = charters.last[v];
            }
            takeCosts(charters);
            arrange();
        }

        void takeCosts(Charters charters) {
            for (int f = 0; f < FORMS; f++) {
                for (int g = 0; g < FORMS; g++) {
                    int which = f == 0 ? INVENT : g == 0 ? DROP : TURN;
                    step[f * FORMS + g] = f == g ? 0 : charters.costOf(which);
                }
            }
        }

        int stepOf(int f, int g) {
            return step[f * FORMS + g];
        }

        void write(Charters charters, int clause) {
            for (int v = 0; v < size; v++) {
                form[v] = charters.told(v, clause);
            }
        }

        /** Orders mothers ahead of their children; false if a ring keeps some from a place. */
        boolean arrange() {
            int placed = 0;
            int n = 0;
            for (int round = 0; round < size && n < size; round++) {
                for (int v = 0; v < size; v++) {
                    boolean ready = mother[v] < 0 || (placed >> mother[v] & 1) != 0;
                    if (ready && (placed >> v & 1) == 0 && n < size) {
                        placed |= 1 << v;
                        order[n] = v;
                        n++;
                    }
                }
            }
            return n == size;
        }

        /** The first child, by numbers, that comes too late by its mother's earliest day; -1: days agree. */
        int firstLate() {
            int late = -1;
            for (int i = 0; i < size; i++) {
                int v = order[i];
                earliest[v] = first[v];
                if (mother[v] >= 0) {
                    earliest[v] = Math.max(first[v], earliest[mother[v]] + 1);
                    if (earliest[v] > last[v] && (late < 0 || v < late)) {
                        late = v;
                    }
                }
            }
            return late;
        }

        int latestOf(int charter) {
            for (int v = 0; v < size; v++) {
                latest[v] = last[v];
            }
            for (int i = size - 1; i >= 0; i--) {
                int v = order[i];
                if (mother[v] >= 0) {
                    latest[mother[v]] = Math.min(latest[mother[v]], latest[v] - 1);
                }
            }
            return latest[charter];
        }

        /** The least cost of the clause over all ways to fill what is torn. */
        int least() {
            for (int v = 0; v < size; v++) {
                for (int f = 0; f < FORMS; f++) {
                    below[v * FORMS + f] = form[v] == TORN || form[v] == f ? 0 : FAR;
                }
            }
            int sum = 0;
            for (int i = size - 1; i >= 0; i--) {
                int v = order[i];
                if (mother[v] < 0) {
                    sum += smallestBelow(v);
                } else {
                    hang(v, mother[v]);
                }
            }
            return sum;
        }

        private int smallestBelow(int v) {
            int smallest = FAR;
            for (int f = 0; f < FORMS; f++) {
                smallest = Math.min(smallest, below[v * FORMS + f]);
            }
            return smallest;
        }

        private void hang(int v, int top) {
            int low = form[v] == TORN ? 0 : form[v];
            int high = form[v] == TORN ? FORMS - 1 : form[v];
            for (int f = 0; f < FORMS; f++) {
                int smallest = FAR;
                for (int g = low; g <= high; g++) {
                    smallest = Math.min(smallest, step[f * FORMS + g] + below[v * FORMS + g]);
                }
                branch[v * FORMS + f] = smallest;
                below[top * FORMS + f] += smallest;
            }
        }

        /** Behind least(): makes ready what each charter may be. */
        void spread() {
            for (int i = 0; i < size; i++) {
                int v = order[i];
                int top = mother[v];
                for (int f = 0; f < FORMS; f++) {
                    beside[v * FORMS + f] = top < 0 ? 0 : besideBranch(v, top, f);
                }
            }
        }

        private int besideBranch(int v, int top, int f) {
            int smallest = FAR;
            for (int g = 0; g < FORMS; g++) {
                int rest = beside[top * FORMS + g] + below[top * FORMS + g] - branch[v * FORMS + g];
                smallest = Math.min(smallest, rest + step[g * FORMS + f]);
            }
            return smallest;
        }

        /** Behind spread(): the forms, as bits, that a charter has in some way of least cost. */
        int maybe(int v) {
            int smallest = FAR;
            int bits = 0;
            for (int f = 0; f < FORMS; f++) {
                int whole = below[v * FORMS + f] + beside[v * FORMS + f];
                if (whole < smallest) {
                    smallest = whole;
                    bits = 0;
                }
                if (whole == smallest) {
                    bits |= 1 << f;
                }
            }
            return bits;
        }
    }

    /** The tree told by hand with what is torn filled: a burnt town's law, whence a clause came, borrowings. */
    private static final class Fillings {
        static final int MOST = 20;
        private static final int CHAPTER = 4;

        private final Charters charters;
        private final Tree tree;
        private final int[] fill = new int[CHARTERS * CLAUSES];
        private final int[] gain = new int[CHAPTER + 2];
        private final int[] saved = new int[MOST + 1];
        private final int[] alone = new int[CHAPTER];

        Fillings(Charters charters, Tree tree) {
            this.charters = charters;
            this.tree = tree;
        }

        int burntForms(int charter, int clause) {
            tree.growAsTold(charters);
            tree.write(charters, clause);
            tree.form[charter] = TORN;
            tree.least();
            tree.spread();
            return tree.maybe(charter);
        }

        /** Behind growAsTold(): the least form of each charter that it may have. */
        private void fillClause(int clause) {
            tree.write(charters, clause);
            tree.least();
            tree.spread();
            for (int v = 0; v < charters.count; v++) {
                int told = charters.told(v, clause);
                fill[charters.formCell(v, clause)] = told != TORN ? told : lowest(tree.maybe(v));
            }
        }

        private static int lowest(int bits) {
            int form = 0;
            while (form < FORMS - 1 && (bits >> form & 1) == 0) {
                form++;
            }
            return form;
        }

        private int filledForm(int charter, int clause) {
            return fill[charters.formCell(charter, clause)];
        }

        private int paid(int child, int clause) {
            int mother = charters.motherOf(child);
            return mother < 0 ? 0 : tree.stepOf(filledForm(mother, clause), filledForm(child, clause));
        }

        int source(int charter, int clause) {
            tree.growAsTold(charters);
            fillClause(clause);
            int form = filledForm(charter, clause);
            if (form == 0) {
                return NOT;
            }
            int source = charter;
            for (int i = 0; i < CHARTERS; i++) {
                int mother = charters.motherOf(source);
                if (mother < 0 || filledForm(mother, clause) != form) {
                    break;
                }
                source = mother;
            }
            return source;
        }

        private boolean lends(int y, int child) {
            return y != charters.motherOf(child) && !charters.isUnder(y, child)
                && charters.first[y] < charters.last[child];
        }

        /** Behind fillClause(): the least charter of whom the clause can be borrowed; NOT: none. */
        private int leastLender(int child, int clause) {
            for (int y = 0; y < charters.count; y++) {
                if (filledForm(y, clause) == filledForm(child, clause) && lends(y, child)) {
                    return y;
                }
            }
            return NOT;
        }

        int lender(int child, int clause) {
            tree.growAsTold(charters);
            fillClause(clause);
            boolean gains = paid(child, clause) > charters.costOf(BORROW_CLAUSE);
            return gains ? leastLender(child, clause) : NOT;
        }

        int leastWith(int k) {
            tree.growAsTold(charters);
            for (int clause = 0; clause < CLAUSES; clause++) {
                fillClause(clause);
            }
            Arrays.fill(saved, 0);
            int sum = 0;
            for (int child = 0; child < charters.count; child++) {
                if (charters.motherOf(child) < 0) {
                    continue;
                }
                for (int start = 0; start < CLAUSES; start += CHAPTER) {
                    sum += weighChapter(child, start);
                    share(k);
                }
            }
            return sum - saved[k];
        }

        /** What a chapter costs from the mother; and the most that so many borrowings in it gain. */
        private int weighChapter(int child, int start) {
            int sum = 0;
            for (int i = 0; i < CHAPTER; i++) {
                int paid = paid(child, start + i);
                boolean can = leastLender(child, start + i) >= 0;
                alone[i] = can ? Math.max(0, paid - charters.costOf(BORROW_CLAUSE)) : 0;
                sum += paid;
            }
            Arrays.fill(gain, 0);
            gainBeside(0, 0, 0);
            for (int y = 0; y < charters.count; y++) {
                if (lends(y, child)) {
                    gainOfChapter(child, start, y);
                }
            }
            return sum;
        }

        private void gainOfChapter(int child, int start, int y) {
            int alike = 0;
            int gained = -charters.costOf(BORROW_CHAPTER);
            for (int i = 0; i < CHAPTER; i++) {
                if (filledForm(y, start + i) == filledForm(child, start + i)) {
                    alike |= 1 << i;
                    gained += paid(child, start + i);
                }
            }
            gainBeside(alike, 1, gained);
        }

        /** Every choice of single clauses beside those served already. */
        private void gainBeside(int served, int used, int gained) {
            for (int singles = 0; singles < 1 << CHAPTER; singles++) {
                if ((singles & served) != 0) {
                    continue;
                }
                int whole = gained;
                for (int i = 0; i < CHAPTER; i++) {
                    whole += (singles >> i & 1) != 0 ? alone[i] : 0;
                }
                int borrowings = used + Integer.bitCount(singles);
                if (borrowings < gain.length) {
                    gain[borrowings] = Math.max(gain[borrowings], whole);
                }
            }
        }

        /** One chapter's gains join those of the chapters before: the most for each number of borrowings. */
        private void share(int k) {
            for (int all = Math.min(k, MOST); all > 0; all--) {
                for (int here = 1; here < gain.length && here <= all; here++) {
                    saved[all] = Math.max(saved[all], saved[all - here] + gain[here]);
                }
            }
        }
    }

    /** The list, and all trees of least cost of the charters on it. */
    private static final class BestTrees {
        static final int MOST = 6;
        /** The trees of six with a root: six to the fifth. */
        private static final int TREES = 7776;

        private final Charters charters;
        private final Tree trial = new Tree();
        int listed;
        int found;
        int least;
        private final int[] list = new int[MOST];
        /** Of each best tree the number whose digits, with the list's length as base, are the choices place by place. */
        private final int[] codes = new int[TREES];
        private final int[] seen = new int[MOST];
        private final int[] power = new int[MOST + 1];
        private final int[] weight = new int[MOST * MOST];
        private final int[] tornClauses = new int[CLAUSES];
        /** What the torn clauses from each on cost at least in any tree: so trees that are too dear are seen early. */
        private final int[] atLeast = new int[CLAUSES + 1];
        private int torn;
        private int plainCost;
        private int versionSeen = -1;

        BestTrees(Charters charters) {
            this.charters = charters;
        }

        int placeOf(int charter) {
            for (int i = 0; i < listed; i++) {
                if (list[i] == charter) {
                    return i;
                }
            }
            return -1;
        }

        int tell(int charter) {
            list[listed] = charter;
            listed++;
            versionSeen = -1;
            return listed;
        }

        int forget() {
            int had = listed;
            listed = 0;
            versionSeen = -1;
            return had;
        }

        int bound() {
            int unit = Math.min(charters.costOf(INVENT), charters.costOf(TURN));
            int sum = 0;
            for (int clause = 0; clause < CLAUSES; clause++) {
                int wordings = toldForms(clause) >> 1;
                sum += Math.max(0, Integer.bitCount(wordings) - 1) * unit;
            }
            return sum;
        }

        private int toldForms(int clause) {
            int bits = 0;
            for (int i = 0; i < listed; i++) {
                int told = charters.told(list[i], clause);
                bits |= told == TORN ? 0 : 1 << told;
            }
            return bits;
        }

        /** Finds all best trees, unless nothing was changed since they were found. */
        void find() {
            if (versionSeen == charters.version || listed < 2) {
                return;
            }
            versionSeen = charters.version;
            found = 0;
            least = Tree.FAR;
            prepare();
            int total = power[0] * listed;
            int code = 0;
            while (code < total) {
                int bad = grow(code);
                if (bad == 0) {
                    weigh(code);
                }
                int stride = Math.max(1, bad);
                code = (code / stride + 1) * stride;
            }
        }

        private void prepare() {
            power[listed - 1] = 1;
            for (int place = listed - 2; place >= 0; place--) {
                power[place] = power[place + 1] * listed;
            }
            trial.size = listed;
            trial.takeCosts(charters);
            for (int i = 0; i < listed; i++) {
                trial.first[i] = charters.first[list[i]];
                trial.last[i] = charters.last[list[i]];
            }
            Arrays.fill(weight, 0);
            torn = 0;
            for (int clause = 0; clause < CLAUSES; clause++) {
                sortClause(clause);
            }
            atLeast[torn] = 0;
            for (int i = torn - 1; i >= 0; i--) {
                atLeast[i] = atLeast[i + 1] + entries(toldForms(tornClauses[i]));
            }
        }

        /** Each form that is told but the root's must come in along some way. */
        private int entries(int forms) {
            int sum = 0;
            int dearest = 0;
            for (int f = 0; f < FORMS; f++) {
                int entry = f == 0 ? charters.costOf(DROP) : Math.min(charters.costOf(INVENT), charters.costOf(TURN));
                if ((forms >> f & 1) != 0) {
                    sum += entry;
                    dearest = Math.max(dearest, entry);
                }
            }
            return sum - dearest;
        }

        /** Clauses told by all have one price for each pair; those that all can share cost nothing in any tree. */
        private void sortClause(int clause) {
            if (Integer.bitCount(toldForms(clause)) < 2) {
                return;
            }
            for (int i = 0; i < listed; i++) {
                if (charters.told(list[i], clause) == TORN) {
                    tornClauses[torn] = clause;
                    torn++;
                    return;
                }
            }
            for (int i = 0; i < listed; i++) {
                for (int j = 0; j < listed; j++) {
                    int paid = trial.stepOf(charters.told(list[i], clause), charters.told(list[j], clause));
                    weight[i * MOST + j] += paid;
                }
            }
        }

        /** The choices of a place are the other places in order, then the root. */
        private int chosen(int code, int place) {
            int choice = code / Math.max(1, power[place]) % Math.max(1, listed);
            if (choice == listed - 1) {
                return ROOT_DIGIT;
            }
            return choice < place ? choice : choice + 1;
        }

        /** Takes the choices one by one; 0 if they make a tree, or else how many codes begin with the bad ones. */
        private int grow(int code) {
            boolean rooted = false;
            plainCost = 0;
            for (int place = 0; place < listed; place++) {
                int mother = chosen(code, place);
                if (mother == ROOT_DIGIT) {
                    trial.mother[place] = -1;
                    if (rooted) {
                        return power[place];
                    }
                    rooted = true;
                } else {
                    trial.mother[place] = mother;
                    plainCost += weight[mother * MOST + place];
                    boolean dear = plainCost + atLeast[0] > least;
                    if (dear || trial.first[mother] >= trial.last[place] || closesRing(place)) {
                        return power[place];
                    }
                }
            }
            return rooted ? 0 : 1;
        }

        private boolean closesRing(int place) {
            int x = trial.mother[place];
            for (int i = 0; i < listed && x >= 0 && x < place; i++) {
                x = trial.mother[x];
            }
            return x == place;
        }

        private void weigh(int code) {
            if (!trial.arrange() || trial.firstLate() >= 0) {
                return;
            }
            int cost = plainCost;
            for (int i = 0; i < torn; i++) {
                if (cost + atLeast[i] > least) {
                    return;
                }
                writeClause(tornClauses[i]);
                cost += trial.least();
            }
            if (cost < least) {
                least = cost;
                found = 0;
                Arrays.fill(seen, 0);
            }
            if (cost == least && found < TREES) {
                codes[found] = code;
                found++;
                for (int place = 0; place < listed; place++) {
                    seen[place] |= 1 << chosen(code, place);
                }
            }
        }

        private void writeClause(int clause) {
            for (int i = 0; i < listed; i++) {
                trial.form[i] = charters.told(list[i], clause);
            }
        }

        int sure() {
            int bits = 0;
            for (int place = 0; place < listed; place++) {
                bits |= Integer.bitCount(seen[place]) == 1 ? 1 << place : 0;
            }
            return bits;
        }

        int motherPlace(int i, int place) {
            return chosen(codes[i], place);
        }

        int neverMothers(int place) {
            return ~seen[place] & (1 << listed) - 1;
        }

        /** How far a mother of a child is so in the best trees: 2 in all, 1 in some, 0 in none. */
        int borneOut(int child, int mother) {
            if ((seen[child] >> mother & 1) == 0) {
                return 0;
            }
            return Integer.bitCount(seen[child]) == 1 ? 2 : 1;
        }
    }

    /** Pairs of clauses that show all four of absent and present. */
    private static final class Clashes {
        private final Charters charters;
        private final int[] against = new int[CLAUSES];

        Clashes(Charters charters) {
            this.charters = charters;
        }

        private boolean clash(int one, int two) {
            int shown = 0;
            for (int charter = 0; charter < charters.count; charter++) {
                int a = charters.told(charter, one);
                int b = charters.told(charter, two);
                if (a != TORN && b != TORN) {
                    shown |= 1 << (a == 0 ? 0 : 1) + (b == 0 ? 0 : 2);
                }
            }
            return shown == 15;
        }

        /** The i-th pair, BAD if there is none; how many for -1. */
        int pair(int i) {
            int n = 0;
            for (int one = 0; one < CLAUSES; one++) {
                for (int two = one + 1; two < CLAUSES; two++) {
                    if (clash(one, two)) {
                        if (n == i) {
                            return 16 * one + two;
                        }
                        n++;
                    }
                }
            }
            return i == -1 ? n : BAD;
        }

        int fewestOut() {
            int involved = involve();
            int out = involved;
            for (int bits = 0; bits <= involved; bits++) {
                boolean fewer = Integer.bitCount(bits) < Integer.bitCount(out);
                if ((bits & ~involved) == 0 && fewer && frees(bits)) {
                    out = bits;
                }
            }
            return out;
        }

        private int involve() {
            Arrays.fill(against, 0);
            int involved = 0;
            for (int one = 0; one < CLAUSES; one++) {
                for (int two = one + 1; two < CLAUSES; two++) {
                    if (clash(one, two)) {
                        against[one] |= 1 << two;
                        against[two] |= 1 << one;
                        involved |= 1 << one | 1 << two;
                    }
                }
            }
            return involved;
        }

        private boolean frees(int out) {
            for (int clause = 0; clause < CLAUSES; clause++) {
                if ((out >> clause & 1) == 0 && (against[clause] & ~out) != 0) {
                    return false;
                }
            }
            return true;
        }
    }

    /** What charters say of their mothers, all together. */
    private static final class Claims {
        private final Charters charters;
        private final Tree said = new Tree();

        Claims(Charters charters) {
            this.charters = charters;
        }

        /** The fewest claims to leave out, as bits: the least of like many. */
        int fewestOut() {
            int all = 0;
            said.size = charters.count;
            for (int v = 0; v < charters.count; v++) {
                all |= charters.says[v] < 0 ? 0 : 1 << v;
                said.first[v] = charters.first[v];
                said.last[v] = charters.last[v];
            }
            int out = all;
            for (int bits = 0; bits <= all; bits++) {
                boolean fewer = Integer.bitCount(bits) < Integer.bitCount(out);
                if ((bits & ~all) == 0 && fewer && holdWithout(bits)) {
                    out = bits;
                }
            }
            return out;
        }

        private boolean holdWithout(int out) {
            for (int v = 0; v < said.size; v++) {
                said.mother[v] = (out >> v & 1) != 0 ? -1 : charters.says[v];
            }
            return said.arrange() && said.firstLate() < 0;
        }
    }

    /** Numbers as a copyist writes them, and what they grow to. */
    private static final class Slips {
        private static final int LARGEST = 99999, DIGITS = 5, SLIPS = 24;
        private static final int LEFT_OUT = 1, TWICE = 2, CHANGED_ABOUT = 3, MISREAD = 4;
        private static final int[] TEN = {1, 10, 100, 1000, 10000, 100000};
        private static final int[] ALIKE = {6, 7, -1, 8, -1, 6, 5, 1, 3, -1};
        private static final int[] ALSO_ALIKE = {-1, -1, -1, -1, -1, -1, 0, -1, -1, -1};

        static boolean isNumber(int number) {
            return number >= 1 && number <= LARGEST;
        }

        /** The least slip that does; 0 if both are alike. */
        static int kind(int from, int to) {
            if (from == to) {
                return 0;
            }
            for (int i = 0; i < SLIPS; i++) {
                if (grown(from, i) == to) {
                    return kindOf(i);
                }
            }
            return NOT;
        }

        static int fewest(int from, int to) {
            int direct = kind(from, to);
            if (direct >= 0) {
                return direct == 0 ? 0 : 1;
            }
            boolean three = false;
            for (int i = 0; i < SLIPS; i++) {
                int one = grown(from, i);
                if (one > 0 && kind(one, to) >= 0) {
                    return 2;
                }
                three = three || one > 0 && inTwo(one, to);
            }
            return three ? 3 : NOT;
        }

        private static boolean inTwo(int from, int to) {
            for (int i = 0; i < SLIPS; i++) {
                int one = grown(from, i);
                if (one > 0 && kind(one, to) >= 0) {
                    return true;
                }
            }
            return false;
        }

        /** All slips stand in one row: five digits left out, five twice, four pairs, five digits misread in two ways. */
        private static int kindOf(int i) {
            return i < 5 ? LEFT_OUT : i < 10 ? TWICE : i < 14 ? CHANGED_ABOUT : MISREAD;
        }

        /** What a number becomes by the i-th slip; -1 if it cannot be, or is no number that is written so. */
        private static int grown(int from, int i) {
            int length = length(from);
            switch (kindOf(i)) {
                case LEFT_OUT:
                    return i < length ? written(from / TEN[i + 1] * TEN[i] + from % TEN[i], length - 1) : -1;
                case TWICE:
                    return i - 5 < length ? written(twice(from, i - 5), length + 1) : -1;
                case CHANGED_ABOUT:
                    return i - 9 < length ? written(changedAbout(from, i - 10), length) : -1;
                default:
                    return (i - 14) / 2 < length ? written(misread(from, (i - 14) / 2, i % 2), length) : -1;
            }
        }

        private static int length(int number) {
            int length = 1;
            while (length < DIGITS && number >= TEN[length]) {
                length++;
            }
            return length;
        }

        private static int written(int number, int length) {
            return length >= 1 && length <= DIGITS && number >= TEN[length - 1] ? number : -1;
        }

        private static int twice(int from, int at) {
            int upTo = from / TEN[at];
            return (upTo * 10 + upTo % 10) * TEN[at] + from % TEN[at];
        }

        private static int changedAbout(int from, int at) {
            int low = from / TEN[at] % 10;
            int high = from / TEN[at + 1] % 10;
            return from + (low - high) * (TEN[at + 1] - TEN[at]);
        }

        private static int misread(int from, int at, int way) {
            int digit = from / TEN[at] % 10;
            int read = way == 0 ? ALIKE[digit] : ALSO_ALIKE[digit];
            return read < 0 ? -1 : from + (read - digit) * TEN[at];
        }
    }

    /** Paths and their acts. What super leads to is written out, body behind body, as each kind has just one way up. */
    private static final class Paths {
        static final int MOST = 100, KEPT = 24;
        private static final int PATH = 0, CHILD = 1, BORROW = 2, AGAIN = 3, LOST = 4, ROOT = 5, TOLD = 6;
        private static final int[] KIND_ABOVE = {-1, 0, 0, 1, 0, 4, 1};

        int count;
        int bodies;
        final int[] kinds = new int[MOST];
        final int[] trace = new int[KEPT];
        private final int[] of = new int[MOST];
        /** Of the path that acts. */
        private int kind;
        private int n;
        private int c;

        static boolean isKind(int kind) {
            return kind >= PATH && kind <= TOLD;
        }

        static boolean isUnder(int kind, int top) {
            int x = kind;
            for (int i = 0; i < KIND_ABOVE.length && isKind(x); i++) {
                if (x == top) {
                    return true;
                }
                x = KIND_ABOVE[x];
            }
            return false;
        }

        boolean has(int path) {
            return path >= 0 && path < count;
        }

        int add(int ofKind, int charter) {
            kinds[count] = ofKind;
            of[count] = charter;
            count++;
            return count - 1;
        }

        int perform(int path, int act, int x) {
            kind = kinds[path];
            n = path;
            c = of[path];
            switch (act) {
                case 0:
                    return costs(x);
                case 1:
                    return lets(x);
                case 2:
                    return holds(x);
                case 3:
                    return tells(x);
                default:
                    return 0;
            }
        }

        private void began(int body) {
            if (bodies < KEPT) {
                trace[bodies] = body;
            }
            bodies++;
        }

        private int costs(int x) {
            if (kind == AGAIN) {
                began(40);
                began(1);
                return x + n - 1;
            }
            if (kind == ROOT) {
                began(60);
                began(1);
                return x + 1 + n;
            }
            began(1);
            return x + n;
        }

        private int lets(int x) {
            if (kind == TOLD) {
                began(70);
            }
            if (isUnder(kind, CHILD)) {
                began(20);
            }
            began(10);
            int value = costs(x) * 2;
            if (isUnder(kind, CHILD)) {
                value += c;
            }
            return kind == TOLD ? value - holds(2) : value;
        }

        private int holds(int x) {
            if (kind == BORROW) {
                began(30);
                began(11);
                return (x ^ n) * 3;
            }
            if (kind == ROOT) {
                began(61);
            }
            if (isUnder(kind, LOST)) {
                began(50);
            }
            began(11);
            int value = isUnder(kind, LOST) ? -(x ^ n) : x ^ n;
            return kind == ROOT ? value + costs(2) : value;
        }

        private int tells(int x) {
            if (kind == AGAIN) {
                began(41);
            }
            began(2);
            int value = lets(x);
            value -= holds(1);
            return kind == AGAIN ? value ^ 5 : value;
        }
    }

    /** What a shelf holds; a row's elements stand in cells as the values that its sort keeps. */
    private static final class Shelf {
        static final int EMPTY = 0, PATH = 1, ROW = 2;
        static final int BYTES = 0, SHORTS = 1, INTS = 2, LONGS = 3, BOOLEANS = 4;
        static final int MOST = 60;

        int holds = EMPTY;
        int path;
        int sort;
        private int size;
        final long[] cells = new long[MOST];

        void keepPath(int number) {
            holds = number < 0 ? EMPTY : PATH;
            path = number;
        }

        void keepRow(int ofSort, int n) {
            holds = ROW;
            sort = ofSort;
            size = n;
            Arrays.fill(cells, 0L);
        }

        boolean hasPlace(long i) {
            return i >= 0 && i < size;
        }

        boolean hasPlaces(int i, int n) {
            return i >= 0 && n >= 0 && (long) i + n <= size;
        }

        long lowest(long v) {
            switch (sort) {
                case BYTES:
                    return (byte) v;
                case SHORTS:
                    return (short) v;
                case INTS:
                    return (int) v;
                case BOOLEANS:
                    return v != 0 ? 1 : 0;
                default:
                    return v;
            }
        }
    }
}
