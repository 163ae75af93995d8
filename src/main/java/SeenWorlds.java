/**
 * Worlds that see worlds: sentences of must and may, judged at worlds of a net.
 *
 * Sets of WORLDS, ATOMS or BITS are the bits of an int throughout. Every row is made once, in a
 * constructor, and used again, because all calls of a run share one room.
 */
public final class SeenWorlds {
    public static final int BAD = -1, STATE = -2, FULL = -3, NONE = -9;

    private static final int MOST_WORLDS = 8, FIRST_WORLDS = 3, ATOMS = 4;
    private static final int PLAIN = 0, SELF = 1, FAR = 2, SORTS = 4;
    private static final int SENTENCES = 6, MOST_BYTES = 200, MOST_SIGNS = 40, MOST_OPEN = 20;
    /** ( SENTENCE i > SENTENCE j ) has the parts of both and itself. */
    private static final int MOST_PARTS = 2 * MOST_SIGNS + 1;
    private static final int MOST_BITS = 10, MOST_TYPES = 1 << MOST_BITS, MOST_SURE = 12;
    private static final int K = 0, D = 1, T = 2, K4 = 3, S4 = 4, KB = 5, TB = 6, S5 = 7, LOGICS = 8;
    /** GROWING nets have TYPES that fall too, so they are sorted out as one more LOGIC. */
    private static final int GROWTH = 8;
    private static final int IS_POSSIBLE = 0, IS_LAW = 1, WITNESS = 2, REACHED = 3, FIT = 4, STAYING = 5, ROUNDS = 6;
    private static final int NO_PART = -1, NO_FAULT = -1, FAULT = -10;
    /** What comes to THE TRACE by each SORT: its own body is asked, and all that stand over it. */
    private static final int[] ASKED = {1, 11, 111, 1111};

    private final Net net = new Net();
    private final View view = new View();
    private final Reader reader = new Reader();
    private final Types types = new Types();
    private final Sentence[] sentences = new Sentence[SENTENCES];
    /** Read into first, so that a FAULT changes nothing; it also takes ( i > j ). */
    private final Sentence draft = new Sentence(MOST_PARTS);
    private final int[] moved = new int[MOST_SIGNS];
    private final int[] dealt = new int[ATOMS];
    private final int[] text = new int[MOST_BYTES];
    private int length = 0;
    private long traced = 0;

    public SeenWorlds() {
        for (int i = 0; i < sentences.length; i++) {
            sentences[i] = new Sentence(MOST_SIGNS);
        }
    }

    // ---- the net

    public int worlds(int n) {
        if (n < 1 || n > MOST_WORLDS) return BAD;
        int were = net.size();
        net.begin(n);
        return were;
    }

    public int see(int a, int b, int is) {
        if (!net.has(a) || !net.has(b) || !isWhether(is)) return BAD;
        int was = bit(net.seenBy(PLAIN, a), b);
        net.let(a, b, is);
        return was;
    }

    public int atom(int i, int where) {
        if (i < 0 || i >= ATOMS || where < 0 || where > net.all()) return BAD;
        int was = at(net.atoms(), i);
        put(net.atoms(), i, where);
        return was;
    }

    public int seen(int sort, int world) {
        if (!isSort(sort) || !net.has(world)) return BAD;
        traced += at(ASKED, sort);
        return net.seenBy(sort, world);
    }

    public int sorts() {
        return net.kinds();
    }

    // ---- sentences

    public int type(long v, int n) {
        if (n < 1 || n > 8) return BAD;
        if (length + n > MOST_BYTES) return FULL;
        for (int left = n - 1; left >= 0; left--) {
            put(text, length, (int) (v >>> (8 * left)) & 255);
            length++;
        }
        return length;
    }

    public int clear() {
        int had = length;
        length = 0;
        return had;
    }

    public int read(int i) {
        Sentence s = sentence(i);
        if (s == null) return BAD;
        int fault = reader.fault(text, length, draft);
        if (fault != NO_FAULT) return FAULT - fault;
        s.become(draft);
        length = 0;
        return s.signs();
    }

    public int about(int i, int what) {
        Sentence s = sentence(i);
        if (s == null) return BAD;
        switch (what) {
            case 0: return s.signs();
            case 1: return s.depth();
            case 2: return s.parts();
            case 3: return s.atoms();
            case 4: return whether(s.isPlain());
            default: return BAD;
        }
    }

    public int holds(int i, int sort) {
        Sentence s = sentence(i);
        if (s == null || !isSort(sort)) return BAD;
        return whereHolds(s, sort);
    }

    public int sure(int i, int sort) {
        Sentence s = sentence(i);
        if (s == null || !isSort(sort)) return BAD;
        int choices = net.size() * Integer.bitCount(s.atoms());
        if (choices > MOST_SURE) return STATE;
        view.look(net, sort);
        for (int choice = 0; choice < 1 << choices; choice++) {
            deal(s.atoms(), choice);
            if (view.judge(s, dealt, false) != net.all()) return 0;
        }
        return 1;
    }

    // ---- logics

    public int logic(int i, int logic, int what) {
        Sentence s = sentence(i);
        if (s == null || !isLogic(logic) || what < IS_POSSIBLE || what > ROUNDS) return BAD;
        if (!types.sortOut(s, logic)) return STATE;
        return types.answer(what);
    }

    public int falls(int i, int logic, int type) {
        Sentence s = sentence(i);
        if (s == null || !isLogic(logic) || type < 0 || type >= types.howMany(s, logic)) return BAD;
        if (!types.sortOut(s, logic)) return STATE;
        return types.fallOf(type);
    }

    public int follows(int i, int j, int logic) {
        Sentence first = sentence(i);
        Sentence second = sentence(j);
        if (first == null || second == null || !isLogic(logic)) return BAD;
        draft.begin();
        int left = draft.takeIn(first, moved);
        int right = draft.takeIn(second, moved);
        draft.part('>', left, right, 0);
        if (!types.sortOut(draft, logic)) return STATE;
        return types.answer(IS_LAW);
    }

    // ---- worlds alike

    public int heaps(int sort) {
        if (!isSort(sort)) return BAD;
        view.look(net, sort);
        view.heapUp(net);
        return view.howManyHeaps();
    }

    public int alike(int a, int b, int sort) {
        if (!net.has(a) || !net.has(b) || !isSort(sort)) return BAD;
        return whether(depthApart(a, b, sort) == NONE);
    }

    public int apart(int a, int b, int sort) {
        if (!net.has(a) || !net.has(b) || !isSort(sort)) return BAD;
        return depthApart(a, b, sort);
    }

    // ---- growing nets, what is told

    public int growing() {
        return whether(net.isGrowing());
    }

    public int grows(int i) {
        Sentence s = sentence(i);
        if (s == null) return BAD;
        if (!s.isPlain() || !net.isGrowing()) return STATE;
        view.look(net, FAR);
        return view.judge(s, net.atoms(), true);
    }

    public int shown(int i, int what) {
        Sentence s = sentence(i);
        if (s == null || what < 0 || what > 1) return BAD;
        // What is TRUE of a PLAIN SENTENCE is a LAW of K: its BITS are its ATOMS alone, and none FALL.
        if (!s.isPlain() || !types.sortOut(s, what == 0 ? GROWTH : K)) return STATE;
        return types.answer(IS_LAW);
    }

    public int tell(int i) {
        Sentence s = sentence(i);
        if (s == null) return BAD;
        int stay = whereHolds(s, PLAIN);
        if (stay == 0) return STATE;
        net.keep(stay);
        return net.size();
    }

    public int known(int i) {
        Sentence s = sentence(i);
        if (s == null) return BAD;
        return net.allLeadInto(whereHolds(s, PLAIN));
    }

    public int steps(int i, int world) {
        Sentence s = sentence(i);
        if (s == null || !net.has(world)) return BAD;
        return net.stepsOutOf(whereHolds(s, PLAIN), world);
    }

    public int count(int what) {
        switch (what) {
            case 0: return net.size();
            case 1: return net.pairs();
            case 2: return length;
            case 3: case 4: case 5: case 6: return at(net.atoms(), what - 3);
            default: return BAD;
        }
    }

    public long trace() {
        return traced;
    }

    // ---- what the calls share

    /** SENTENCE i, or null if there is no such one. */
    private Sentence sentence(int i) {
        return i >= 0 && i < sentences.length ? sentences[i] : null;
    }

    private int whereHolds(Sentence s, int sort) {
        view.look(net, sort);
        return view.judge(s, net.atoms(), false);
    }

    private int depthApart(int a, int b, int sort) {
        view.look(net, sort);
        return view.depthApart(net, a, b);
    }

    /** Deals one choice of WORLDS to each of the ATOMS: the lowest bits to the first of them. */
    private void deal(int atoms, int choice) {
        int left = choice;
        for (int i = 0; i < ATOMS; i++) {
            if (bit(atoms, i) == 0) continue;
            put(dealt, i, left & net.all());
            left >>>= net.size();
        }
    }

    private static boolean isSort(int sort) {
        return sort >= 0 && sort < SORTS;
    }

    private static boolean isLogic(int logic) {
        return logic >= 0 && logic < LOGICS;
    }

    private static boolean isWhether(int is) {
        return is == 0 || is == 1;
    }

    private static int whether(boolean is) {
        return is ? 1 : 0;
    }

    private static int bit(int bits, int place) {
        return bits >>> place & 1;
    }

    private static boolean within(int bits, int others) {
        return (bits & ~others) == 0;
    }

    // Rows are asked and changed by these alone, so that no place outside a row is ever used.

    private static int at(int[] row, int place) {
        return place >= 0 && place < row.length ? row[place] : 0;
    }

    private static void put(int[] row, int place, int value) {
        if (place >= 0 && place < row.length) row[place] = value;
    }

    // ---- bytes of sentences

    private static boolean isAtom(int sign) {
        return sign >= 'p' && sign <= 's';
    }

    private static boolean isModal(int sign) {
        return sign == '[' || sign == '{';
    }

    private static boolean isPrefix(int sign) {
        return sign == '!' || isModal(sign);
    }

    private static boolean isBetween(int sign) {
        return sign == '&' || sign == '|' || sign == '>';
    }

    /** Where T, F, ! & | > hold, if what they join holds at x and y, and all there is are these bits. */
    private static int joined(int sign, int x, int y, int all) {
        switch (sign) {
            case 'T': return all;
            case '!': return all & ~x;
            case '&': return x & y;
            case '|': return x | y;
            case '>': return all & (~x | y);
            default: return 0;
        }
    }

    /** WORLDS, whom they SEE, and where the ATOMS are true. */
    private static final class Net {
        private final int[] sees = new int[MOST_WORLDS];
        private final int[] atoms = new int[ATOMS];
        private int size = FIRST_WORLDS;

        int size() {
            return size;
        }

        int all() {
            return (1 << size) - 1;
        }

        boolean has(int world) {
            return world >= 0 && world < size;
        }

        int[] atoms() {
            return atoms;
        }

        void begin(int n) {
            size = n;
            for (int w = 0; w < MOST_WORLDS; w++) put(sees, w, 0);
            for (int i = 0; i < ATOMS; i++) put(atoms, i, 0);
        }

        void let(int a, int b, int is) {
            put(sees, a, at(sees, a) & ~(1 << b) | is << b);
        }

        int pairs() {
            int pairs = 0;
            for (int w = 0; w < size; w++) pairs += Integer.bitCount(at(sees, w));
            return pairs;
        }

        int seenBy(int sort, int world) {
            switch (sort) {
                case PLAIN: return at(sees, world);
                case SELF: return at(sees, world) | 1 << world;
                case FAR: return farFrom(1 << world);
                default: return bothWaysFrom(1 << world);
            }
        }

        private int stepFrom(int from) {
            int to = 0;
            for (int w = 0; w < size; w++) {
                if (bit(from, w) == 1) to |= at(sees, w);
            }
            return to;
        }

        private int stepInto(int to) {
            int from = 0;
            for (int w = 0; w < size; w++) {
                if ((at(sees, w) & to) != 0) from |= 1 << w;
            }
            return from;
        }

        private int farFrom(int from) {
            int come = from;
            for (int step = 0; step < size; step++) come |= stepFrom(come);
            return come;
        }

        private int bothWaysFrom(int from) {
            int come = from;
            for (int step = 0; step < size; step++) come |= stepFrom(come) | stepInto(come);
            return come;
        }

        /** SORTS that THE NET is of, as bits. */
        int kinds() {
            int kinds = 63;
            for (int w = 0; w < size; w++) {
                int to = at(sees, w);
                if (bit(to, w) == 0) kinds &= ~1;
                if (!within(to, stepInto(1 << w))) kinds &= ~2;
                if (!within(stepFrom(to), to)) kinds &= ~4;
                if (to == 0) kinds &= ~8;
                if (!allSeeEachOther(to)) kinds &= ~16;
                if (Integer.bitCount(to) > 1) kinds &= ~32;
            }
            return kinds;
        }

        private boolean allSeeEachOther(int worlds) {
            for (int w = 0; w < size; w++) {
                if (bit(worlds, w) == 1 && !within(worlds, at(sees, w))) return false;
            }
            return true;
        }

        /** By one step each is as good as by FAR: what goes on in each step goes on for ever. */
        boolean isGrowing() {
            for (int i = 0; i < ATOMS; i++) {
                if (!within(stepFrom(at(atoms, i)), at(atoms, i))) return false;
            }
            return true;
        }

        /** WORLDS from which one step or more lead to none but these. */
        int allLeadInto(int these) {
            int from = 0;
            for (int w = 0; w < size; w++) {
                if (within(farFrom(at(sees, w)), these)) from |= 1 << w;
            }
            return from;
        }

        int stepsOutOf(int these, int world) {
            int come = 1 << world;
            for (int steps = 0; steps < size; steps++) {
                if (!within(come, these)) return steps;
                come |= stepFrom(come);
            }
            return NONE;
        }

        /** The rows are closed up in place: a WORLD that stays never gets a higher number. */
        void keep(int stay) {
            int kept = 0;
            for (int w = 0; w < size; w++) {
                if (bit(stay, w) == 0) continue;
                put(sees, kept, closedUp(at(sees, w), stay));
                kept++;
            }
            for (int w = kept; w < size; w++) put(sees, w, 0);
            for (int i = 0; i < ATOMS; i++) put(atoms, i, closedUp(at(atoms, i), stay));
            size = kept;
        }

        private int closedUp(int bits, int stay) {
            int closed = 0;
            int kept = 0;
            for (int w = 0; w < size; w++) {
                if (bit(stay, w) == 0) continue;
                closed |= bit(bits, w) << kept;
                kept++;
            }
            return closed;
        }
    }

    /** A net as one SORT sees it: what holds there, and which of its WORLDS are ALIKE. */
    private static final class View {
        private final int[] from = new int[MOST_WORLDS];
        private final int[] where = new int[MOST_SIGNS];
        private final int[] heap = new int[MOST_WORLDS];
        private final int[] finer = new int[MOST_WORLDS];
        private int size = 0;

        void look(Net net, int sort) {
            size = net.size();
            for (int w = 0; w < size; w++) put(from, w, net.seenBy(sort, w));
        }

        /** Where a SENTENCE HOLDS, or HOLDS GROWING: there > and ! must go on holding. */
        int judge(Sentence s, int[] atoms, boolean growing) {
            int all = (1 << size) - 1;
            for (int part = 0; part < s.parts(); part++) {
                int sign = s.sign(part);
                int x = at(where, s.first(part));
                int y = at(where, s.second(part));
                int here = isAtom(sign) ? at(atoms, sign - 'p') : joined(sign, x, y, all);
                if (sign == '[') here = must(x);
                if (sign == '{') here = all & ~must(~x);
                if (growing && (sign == '>' || sign == '!')) here = must(here);
                put(where, part, here);
            }
            return at(where, s.parts() - 1);
        }

        private int must(int bits) {
            int worlds = 0;
            for (int w = 0; w < size; w++) {
                if (within(at(from, w), bits)) worlds |= 1 << w;
            }
            return worlds;
        }

        /** The least DEPTH by which two WORLDS lie in unlike heaps. */
        int depthApart(Net net, int a, int b) {
            heapByAtoms(net);
            for (int depth = 0; depth <= size; depth++) {
                if (at(heap, a) != at(heap, b)) return depth;
                heapFiner();
            }
            return NONE;
        }

        void heapUp(Net net) {
            heapByAtoms(net);
            for (int depth = 0; depth < size; depth++) heapFiner();
        }

        int howManyHeaps() {
            int heaps = 0;
            for (int w = 0; w < size; w++) {
                if (at(heap, w) == w) heaps++;
            }
            return heaps;
        }

        /** A heap is named by its least WORLD. */
        private void heapByAtoms(Net net) {
            for (int w = 0; w < size; w++) {
                int least = 0;
                while (least < w && !sameAtoms(net, least, w)) least++;
                put(heap, w, least);
            }
        }

        private static boolean sameAtoms(Net net, int a, int b) {
            for (int i = 0; i < ATOMS; i++) {
                int where = at(net.atoms(), i);
                if (bit(where, a) != bit(where, b)) return false;
            }
            return true;
        }

        /** One DEPTH more: a heap is cut where its WORLDS see unlike heaps. */
        private void heapFiner() {
            for (int w = 0; w < size; w++) {
                int least = 0;
                while (least < w && !sameHeaps(least, w)) least++;
                put(finer, w, least);
            }
            for (int w = 0; w < size; w++) put(heap, w, at(finer, w));
        }

        private boolean sameHeaps(int a, int b) {
            return at(heap, a) == at(heap, b) && heapsSeen(a) == heapsSeen(b);
        }

        private int heapsSeen(int world) {
            int heaps = 0;
            for (int w = 0; w < size; w++) {
                if (bit(at(from, world), w) == 1) heaps |= 1 << at(heap, w);
            }
            return heaps;
        }
    }

    /**
     * A SENTENCE as its unlike parts, each behind the parts that it is made of, itself the last.
     * Parts of the same text are one part, so counting them and judging them once is enough.
     */
    private static final class Sentence {
        private final int[] sign;
        private final int[] first;
        private final int[] second;
        private final int[] place;
        private final int[] deep;
        private int parts = 0;
        private int signs = 0;

        /** At first it is T. */
        Sentence(int mostParts) {
            int size = Math.max(1, mostParts);
            sign = new int[size];
            first = new int[size];
            second = new int[size];
            place = new int[size];
            deep = new int[size];
            sign[0] = 'T';
            first[0] = NO_PART;
            second[0] = NO_PART;
            parts = 1;
            signs = 1;
        }

        int parts() {
            return parts;
        }

        int signs() {
            return signs;
        }

        int sign(int part) {
            return at(sign, part);
        }

        int first(int part) {
            return at(first, part);
        }

        int second(int part) {
            return at(second, part);
        }

        /** Where a part first stands in the text. */
        int place(int part) {
            return at(place, part);
        }

        int depth() {
            return at(deep, parts - 1);
        }

        boolean isPlain() {
            return depth() == 0;
        }

        int atoms() {
            int atoms = 0;
            for (int part = 0; part < parts; part++) {
                if (isAtom(at(sign, part))) atoms |= 1 << (at(sign, part) - 'p');
            }
            return atoms;
        }

        void begin() {
            parts = 0;
            signs = 0;
        }

        void countSign() {
            signs++;
        }

        /** The part of this text: the one that stands already, or a new one. */
        int part(int newSign, int newFirst, int newSecond, int newPlace) {
            for (int part = 0; part < parts; part++) {
                if (at(sign, part) == newSign && at(first, part) == newFirst && at(second, part) == newSecond) {
                    return part;
                }
            }
            if (parts < sign.length) {
                put(sign, parts, newSign);
                put(first, parts, newFirst);
                put(second, parts, newSecond);
                put(place, parts, newPlace);
                put(deep, parts, Math.max(at(deep, newFirst), at(deep, newSecond)) + whether(isModal(newSign)));
                parts++;
            }
            return parts - 1;
        }

        void become(Sentence other) {
            parts = Math.min(other.parts, sign.length);
            signs = other.signs;
            for (int part = 0; part < parts; part++) {
                put(sign, part, at(other.sign, part));
                put(first, part, at(other.first, part));
                put(second, part, at(other.second, part));
                put(place, part, at(other.place, part));
                put(deep, part, at(other.deep, part));
            }
        }

        /** All parts of another SENTENCE come to these; which of these it is now. */
        int takeIn(Sentence other, int[] moved) {
            for (int part = 0; part < other.parts; part++) {
                int newFirst = movedTo(moved, at(other.first, part));
                int newSecond = movedTo(moved, at(other.second, part));
                put(moved, part, part(at(other.sign, part), newFirst, newSecond, at(other.place, part)));
            }
            return at(moved, other.parts - 1);
        }

        private static int movedTo(int[] moved, int part) {
            return part == NO_PART ? NO_PART : at(moved, part);
        }
    }

    /** Reads a text byte by byte; what is open lies on a stack, for 20 lie open at most. */
    private static final class Reader {
        private static final int ONE = 0, BETWEEN = 1, CLOSING = 2, NOTHING = 3;

        /** The byte that opened; of a ( the sign between, once that is read. */
        private final int[] opened = new int[MOST_OPEN];
        private final int[] place = new int[MOST_OPEN];
        private final int[] first = new int[MOST_OPEN];
        private final int[] second = new int[MOST_OPEN];
        private int open = 0;
        private int due = ONE;

        /** Reads the text into a SENTENCE: its FAULT, or NO_FAULT. */
        int fault(int[] text, int length, Sentence into) {
            open = 0;
            due = ONE;
            into.begin();
            for (int here = 0; here < length; here++) {
                if (!takes(at(text, here), here, into)) return here;
            }
            return due == NOTHING ? NO_FAULT : length;
        }

        private boolean takes(int sign, int here, Sentence into) {
            if (sign != '(' && sign != ')') {
                if (into.signs() >= MOST_SIGNS) return false;
                into.countSign();
            }
            switch (due) {
                case ONE: return takesOne(sign, here, into);
                case BETWEEN: return takesBetween(sign);
                case CLOSING: return takesClosing(sign, into);
                default: return false;
            }
        }

        private boolean takesOne(int sign, int here, Sentence into) {
            if (isAtom(sign) || sign == 'T' || sign == 'F') {
                end(into.part(sign, NO_PART, NO_PART, here), into);
                return true;
            }
            if (sign != '(' && !isPrefix(sign) || open >= MOST_OPEN) return false;
            put(opened, open, sign);
            put(place, open, here);
            put(first, open, NO_PART);
            open++;
            return true;
        }

        private boolean takesBetween(int sign) {
            if (!isBetween(sign)) return false;
            put(opened, open - 1, sign);
            due = ONE;
            return true;
        }

        private boolean takesClosing(int sign, Sentence into) {
            if (sign != ')') return false;
            open--;
            end(into.part(at(opened, open), at(first, open), at(second, open), at(place, open)), into);
            return true;
        }

        /** A part ends, and with it all prefixes that stand right before it. */
        private void end(int part, Sentence into) {
            int ended = part;
            while (open > 0 && isPrefix(at(opened, open - 1))) {
                open--;
                ended = into.part(at(opened, open), ended, NO_PART, at(place, open));
            }
            if (open == 0) {
                due = NOTHING;
            } else if (at(first, open - 1) == NO_PART) {
                put(first, open - 1, ended);
                due = BETWEEN;
            } else {
                put(second, open - 1, ended);
                due = CLOSING;
            }
        }
    }

    /**
     * The TYPES of a SENTENCE by a LOGIC, and the ROUNDS in which they FALL.
     *
     * What a TYPE claims of all that it MAY SEE: each [ x that holds there, each { x that does not.
     * What it bears: the claims that it fulfils itself, as one that is seen. What it claims not, it owes:
     * it needs one to see that does not bear it. In a GROWING net the parts with > and ! claim so, and
     * the ATOMS claim themselves, but owe nothing.
     */
    private static final class Types {
        private final int[] bitOf = new int[MOST_PARTS];
        private final int[] value = new int[MOST_PARTS];
        private final int[] claims = new int[MOST_TYPES];
        private final int[] bears = new int[MOST_TYPES];
        private final int[] whole = new int[MOST_TYPES];
        private final int[] fall = new int[MOST_TYPES];
        private final int[] stays = new int[MOST_TYPES];
        private int logic = K;
        private int size = 0;
        private int claiming = 0;
        private int turned = 0;
        private int owing = 0;
        private int rounds = 0;
        private int staying = 0;

        /** How many numbers TYPES would have, were no number of BITS too many. */
        long howMany(Sentence s, int byLogic) {
            return 1L << countBits(s, byLogic);
        }

        /** Lets all TYPES FALL that do; false if there are too many BITS. */
        boolean sortOut(Sentence s, int byLogic) {
            int bits = countBits(s, byLogic);
            if (bits > MOST_BITS) return false;
            logic = byLogic;
            size = 1 << bits;
            giveBits(s);
            for (int type = 0; type < size; type++) weigh(s, type);
            beginWithFit();
            rounds = 0;
            while (rounds < size && anyFall(rounds + 1)) rounds++;
            return true;
        }

        private static boolean hasBit(int sign, int byLogic) {
            if (isAtom(sign)) return true;
            return byLogic == GROWTH ? sign == '>' || sign == '!' : isModal(sign);
        }

        private static int countBits(Sentence s, int byLogic) {
            int bits = 0;
            for (int part = 0; part < s.parts(); part++) {
                if (hasBit(s.sign(part), byLogic)) bits++;
            }
            return bits;
        }

        private void giveBits(Sentence s) {
            claiming = 0;
            turned = 0;
            owing = 0;
            for (int part = 0; part < s.parts(); part++) {
                int sign = s.sign(part);
                put(bitOf, part, NONE);
                if (!hasBit(sign, logic)) continue;
                int bit = bitsBefore(s, part);
                put(bitOf, part, bit);
                if (sign == '{') turned |= 1 << bit;
                if (!isAtom(sign)) owing |= 1 << bit;
                if (!isAtom(sign) || logic == GROWTH) claiming |= 1 << bit;
            }
        }

        /** In ( i > j ) two parts may have the same place in their texts: then the first read is first. */
        private int bitsBefore(Sentence s, int part) {
            int before = 0;
            for (int other = 0; other < s.parts(); other++) {
                if (!hasBit(s.sign(other), logic)) continue;
                if (s.place(other) < s.place(part) || s.place(other) == s.place(part) && other < part) before++;
            }
            return before;
        }

        /** What each part is by a TYPE, and so what that TYPE claims and bears. */
        private void weigh(Sentence s, int type) {
            int borne = 0;
            for (int part = 0; part < s.parts(); part++) {
                int sign = s.sign(part);
                int bit = at(bitOf, part);
                int x = at(value, s.first(part));
                int plainly = joined(sign, x, at(value, s.second(part)), 1);
                put(value, part, bit == NONE ? plainly : bit(type, bit));
                if (bit != NONE) borne |= bearing(sign, x, plainly, bit(type, bit)) << bit;
            }
            put(claims, type, (type ^ turned) & claiming);
            put(bears, type, borne);
            put(whole, type, at(value, s.parts() - 1));
        }

        private static int bearing(int sign, int x, int plainly, int given) {
            if (sign == '[') return x;
            if (sign == '{') return 1 - x;
            return isAtom(sign) ? given : plainly;
        }

        private boolean maySee(int a, int b) {
            if (!within(at(claims, a), at(bears, b))) return false;
            switch (logic) {
                case K4: case S4: case GROWTH: return within(at(claims, a), at(claims, b));
                case KB: case TB: return within(at(claims, b), at(bears, a));
                case S5: return within(at(claims, b), at(bears, a)) && at(claims, a) == at(claims, b);
                default: return true;
            }
        }

        private boolean isFit(int type) {
            switch (logic) {
                case T: case TB: case S4: case S5: case GROWTH: return maySee(type, type);
                default: return true;
            }
        }

        private void beginWithFit() {
            staying = 0;
            for (int type = 0; type < size; type++) {
                put(fall, type, 0);
                if (isFit(type)) stay(type);
            }
        }

        private void stay(int type) {
            put(fall, type, NONE);
            put(stays, staying, type);
            staying++;
        }

        /** All FALL at once: the list is closed up when a ROUND is over, so till then all are there. */
        private boolean anyFall(int round) {
            int were = staying;
            for (int place = 0; place < were; place++) {
                int type = at(stays, place);
                if (mustFall(type)) put(fall, type, round);
            }
            staying = 0;
            for (int place = 0; place < were; place++) {
                int type = at(stays, place);
                if (at(fall, type) == NONE) stay(type);
            }
            return staying < were;
        }

        private boolean mustFall(int type) {
            int owed = owing & ~at(claims, type);
            boolean mustSee = logic == D;
            for (int place = 0; place < staying; place++) {
                if (owed == 0 && !mustSee) return false;
                int other = at(stays, place);
                if (!maySee(type, other)) continue;
                owed &= at(bears, other);
                mustSee = false;
            }
            return owed != 0 || mustSee;
        }

        int fallOf(int type) {
            return at(fall, type);
        }

        int answer(int what) {
            switch (what) {
                case IS_POSSIBLE: return whether(placeWhere(1) != NONE);
                case IS_LAW: return whether(placeWhere(0) == NONE);
                case WITNESS: return placeWhere(1) == NONE ? NONE : at(stays, placeWhere(1));
                case REACHED: return howManyReached(placeWhere(1));
                case FIT: return howManyFit();
                case STAYING: return staying;
                default: return rounds;
            }
        }

        /** The place of the least TYPE that stays at which the SENTENCE holds (1) or not (0). */
        private int placeWhere(int holding) {
            for (int place = 0; place < staying; place++) {
                if (at(whole, at(stays, place)) == holding) return place;
            }
            return NONE;
        }

        private int howManyFit() {
            int fit = 0;
            for (int type = 0; type < size; type++) {
                if (at(fall, type) != 0) fit++;
            }
            return fit;
        }

        /** Those come to are brought to the front of the list, which so tells what is still to be asked. */
        private int howManyReached(int witness) {
            if (witness == NONE) return 0;
            swapStays(0, witness);
            int reached = 1;
            for (int from = 0; from < reached && from < staying; from++) {
                for (int to = reached; to < staying; to++) {
                    if (!maySee(at(stays, from), at(stays, to))) continue;
                    swapStays(reached, to);
                    reached++;
                }
            }
            return reached;
        }

        private void swapStays(int a, int b) {
            int type = at(stays, a);
            put(stays, a, at(stays, b));
            put(stays, b, type);
        }
    }
}
