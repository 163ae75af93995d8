import java.util.ArrayList;
import java.util.HashSet;
import java.util.LinkedHashSet;
import java.util.List;
import java.util.Map;
import java.util.HashMap;
import java.util.Set;

/**
 * The document once more, told another way: SENTENCES stay texts, WORLDS are sets, TYPES are sets of
 * texts, ALIKE is what is left of all pairs. Slow and plain, to be compared with the class.
 */
public final class Model {
    private static final int BAD = -1, STATE = -2, FULL = -3, NONE = -9;

    private int n = 3;
    private final boolean[][] sees = new boolean[8][8];
    private final boolean[][] isTrue = new boolean[4][8];
    private final String[] sentences = {"T", "T", "T", "T", "T", "T"};
    private String text = "";
    private long trace = 0;

    // ---- the net

    public int worlds(int count) {
        if (count < 1 || count > 8) return BAD;
        int were = n;
        n = count;
        for (boolean[] row : sees) java.util.Arrays.fill(row, false);
        for (boolean[] row : isTrue) java.util.Arrays.fill(row, false);
        return were;
    }

    private boolean isWorld(int w) {
        return 0 <= w && w < n;
    }

    public int see(int a, int b, int is) {
        if (!isWorld(a) || !isWorld(b) || is < 0 || is > 1) return BAD;
        int was = sees[a][b] ? 1 : 0;
        sees[a][b] = is == 1;
        return was;
    }

    public int atom(int i, int where) {
        if (i < 0 || i > 3 || where < 0 || where >= 1 << n) return BAD;
        int was = 0;
        for (int w = 0; w < n; w++) {
            if (isTrue[i][w]) was += 1 << w;
            isTrue[i][w] = where / (1 << w) % 2 == 1;
        }
        return was;
    }

    private static int bits(Set<Integer> worlds) {
        int bits = 0;
        for (int w : worlds) bits += 1 << w;
        return bits;
    }

    private Set<Integer> from(int sort, int world) {
        Set<Integer> all = new HashSet<>();
        if (sort == 0 || sort == 1) {
            for (int w = 0; w < n; w++) if (sees[world][w] || sort == 1 && w == world) all.add(w);
            return all;
        }
        List<Set<Integer>> up = new ArrayList<>();
        for (int w = 0; w < n; w++) up.add(from(sort - 1, w));
        all.addAll(up.get(world));
        for (int again = 0; again < n; again++) {
            for (int w : new ArrayList<>(all)) {
                all.addAll(up.get(w));
                for (int v = 0; sort == 3 && v < n; v++) if (up.get(v).contains(w)) all.add(v);
            }
        }
        return all;
    }

    public int seen(int sort, int world) {
        if (sort < 0 || sort > 3 || !isWorld(world)) return BAD;
        trace += sort == 0 ? 1 : sort == 1 ? 11 : sort == 2 ? 111 : 1111;
        return bits(from(sort, world));
    }

    public int sorts() {
        boolean[] is = {true, true, true, true, true, true};
        for (int a = 0; a < n; a++) {
            int some = 0;
            for (int b = 0; b < n; b++) {
                if (sees[a][b]) some++;
                if (sees[a][b] && !sees[b][a]) is[1] = false;
                for (int c = 0; c < n; c++) {
                    if (sees[a][b] && sees[b][c] && !sees[a][c]) is[2] = false;
                    if (sees[a][b] && sees[a][c] && !sees[b][c]) is[4] = false;
                }
            }
            if (!sees[a][a]) is[0] = false;
            if (some == 0) is[3] = false;
            if (some > 1) is[5] = false;
        }
        int bits = 0;
        for (int k = 0; k < 6; k++) if (is[k]) bits += 1 << k;
        return bits;
    }

    // ---- sentences

    public int type(long v, int count) {
        if (count < 1 || count > 8) return BAD;
        if (text.length() + count > 200) return FULL;
        StringBuilder more = new StringBuilder();
        long rest = v;
        for (int k = 0; k < count; k++) {
            more.append((char) (rest & 255));
            rest >>= 8;
        }
        text += more.reverse();
        return text.length();
    }

    public int clear() {
        int had = text.length();
        text = "";
        return had;
    }

    private static final class Fault extends Exception {
        private static final long serialVersionUID = 1;
        final int place;

        Fault(int place) {
            this.place = place;
        }
    }

    private int signs;

    private char next(int place) throws Fault {
        if (place >= text.length()) throw new Fault(text.length());
        char c = text.charAt(place);
        if (c != '(' && c != ')' && ++signs > 40) throw new Fault(place);
        return c;
    }

    /** The place behind the SENTENCE that begins here. */
    private int behind(int place, int open) throws Fault {
        char c = next(place);
        if ("pqrsTF".indexOf(c) >= 0) return place + 1;
        if ("![{(".indexOf(c) < 0 || open == 20) throw new Fault(place);
        int then = behind(place + 1, open + 1);
        if (c != '(') return then;
        if ("&|>".indexOf(next(then)) < 0) throw new Fault(then);
        int end = behind(then + 1, open + 1);
        if (next(end) != ')') throw new Fault(end);
        return end + 1;
    }

    public int read(int i) {
        if (i < 0 || i > 5) return BAD;
        signs = 0;
        try {
            int end = behind(0, 0);
            if (end < text.length()) throw new Fault(end);
        } catch (Fault fault) {
            return -10 - fault.place;
        }
        sentences[i] = text;
        text = "";
        return signs;
    }

    /** The length of the SENTENCE that begins at a place of a text. */
    private static int lengthAt(String s, int place) {
        char c = s.charAt(place);
        if ("pqrsTF".indexOf(c) >= 0) return 1;
        int then = lengthAt(s, place + 1);
        if (c != '(') return 1 + then;
        return 3 + then + lengthAt(s, place + 2 + then);
    }

    private static String left(String s) {
        return s.substring(1, 1 + lengthAt(s, 1));
    }

    private static String right(String s) {
        return s.substring(2 + lengthAt(s, 1), s.length() - 1);
    }

    /** & | or >, or the first byte of a SENTENCE that begins with no bracket ( . */
    private static char kind(String s) {
        return s.charAt(0) == '(' ? s.charAt(1 + lengthAt(s, 1)) : s.charAt(0);
    }

    /** All unlike parts, in the order in which they first stand in the text. */
    private static Set<String> parts(String s) {
        Set<String> parts = new LinkedHashSet<>();
        for (int place = 0; place < s.length(); place++) {
            if ("pqrsTF![{(".indexOf(s.charAt(place)) >= 0) parts.add(s.substring(place, place + lengthAt(s, place)));
        }
        return parts;
    }

    private static int depth(String s) {
        switch (kind(s)) {
            case '[': case '{': return 1 + depth(s.substring(1));
            case '!': return depth(s.substring(1));
            case '&': case '|': case '>': return Math.max(depth(left(s)), depth(right(s)));
            default: return 0;
        }
    }

    private static int atomsOf(String s) {
        int atoms = 0;
        for (int a = 0; a < 4; a++) if (s.indexOf("pqrs".charAt(a)) >= 0) atoms += 1 << a;
        return atoms;
    }

    private boolean isSentence(int i) {
        return 0 <= i && i < 6;
    }

    public int about(int i, int what) {
        if (!isSentence(i) || what < 0 || what > 4) return BAD;
        String s = sentences[i];
        if (what == 0) return s.replace("(", "").replace(")", "").length();
        if (what == 1) return depth(s);
        if (what == 2) return parts(s).size();
        if (what == 3) return atomsOf(s);
        return depth(s) == 0 ? 1 : 0;
    }

    private interface Seen {
        Set<Integer> from(int world);
    }

    private Seen by(int sort) {
        List<Set<Integer>> rows = new ArrayList<>();
        for (int w = 0; w < n; w++) rows.add(from(sort, w));
        return rows::get;
    }

    /** At which WORLDS a SENTENCE HOLDS. */
    private boolean[] where(String s, Seen seen, boolean[][] atoms) {
        boolean[] here = new boolean[n];
        char kind = kind(s);
        boolean two = s.charAt(0) == '(';
        boolean[] x = s.length() == 1 ? null : where(two ? left(s) : s.substring(1), seen, atoms);
        boolean[] y = two ? where(right(s), seen, atoms) : null;
        for (int w = 0; w < n; w++) {
            if ("pqrs".indexOf(kind) >= 0) here[w] = atoms["pqrs".indexOf(kind)][w];
            else if (kind == 'T') here[w] = true;
            else if (kind == 'F') here[w] = false;
            else if (kind == '!') here[w] = !x[w];
            else if (kind == '&') here[w] = x[w] && y[w];
            else if (kind == '|') here[w] = x[w] || y[w];
            else if (kind == '>') here[w] = !x[w] || y[w];
            else {
                boolean all = true;
                boolean some = false;
                for (int v : seen.from(w)) {
                    all = all && x[v];
                    some = some || x[v];
                }
                here[w] = kind == '[' ? all : some;
            }
        }
        return here;
    }

    private static int bits(boolean[] where) {
        int bits = 0;
        for (int w = 0; w < where.length; w++) if (where[w]) bits += 1 << w;
        return bits;
    }

    public int holds(int i, int sort) {
        if (!isSentence(i) || sort < 0 || sort > 3) return BAD;
        return bits(where(sentences[i], by(sort), isTrue));
    }

    public int sure(int i, int sort) {
        if (!isSentence(i) || sort < 0 || sort > 3) return BAD;
        String s = sentences[i];
        if (n * Integer.bitCount(atomsOf(s)) > 12) return STATE;
        return sureFrom(s, by(sort), new boolean[4][8], 0) ? 1 : 0;
    }

    private boolean sureFrom(String s, Seen seen, boolean[][] atoms, int a) {
        if (a == 4) return bits(where(s, seen, atoms)) == (1 << n) - 1;
        if (s.indexOf("pqrs".charAt(a)) < 0) return sureFrom(s, seen, atoms, a + 1);
        for (int set = 0; set < 1 << n; set++) {
            for (int w = 0; w < n; w++) atoms[a][w] = (set & 1 << w) != 0;
            if (!sureFrom(s, seen, atoms, a + 1)) return false;
        }
        return true;
    }

    // ---- logics: a TYPE is the set of the texts that hold by it

    private static final int K = 0, D = 1, T = 2, K4 = 3, S4 = 4, KB = 5, TB = 6, S5 = 7;

    private static boolean holdsBy(String s, Map<String, Boolean> given) {
        Boolean is = given.get(s);
        if (is != null) return is;
        switch (kind(s)) {
            case 'T': return true;
            case 'F': return false;
            case '!': return !holdsBy(s.substring(1), given);
            case '&': return holdsBy(left(s), given) && holdsBy(right(s), given);
            case '|': return holdsBy(left(s), given) || holdsBy(right(s), given);
            default: return !holdsBy(left(s), given) || holdsBy(right(s), given);
        }
    }

    private static List<String> bitsOf(String s, String kinds) {
        List<String> bits = new ArrayList<>();
        for (String part : parts(s)) if (kinds.indexOf(kind(part)) >= 0) bits.add(part);
        return bits;
    }

    private static List<Set<String>> allTypes(String s, List<String> bits) {
        List<Set<String>> types = new ArrayList<>();
        for (int number = 0; number < 1 << bits.size(); number++) {
            Map<String, Boolean> given = new HashMap<>();
            for (int b = 0; b < bits.size(); b++) given.put(bits.get(b), number / (1 << b) % 2 == 1);
            Set<String> holding = new HashSet<>();
            for (String part : parts(s)) if (holdsBy(part, given)) holding.add(part);
            types.add(holding);
        }
        return types;
    }

    private static boolean kSees(List<String> modal, Set<String> a, Set<String> b) {
        for (String m : modal) {
            boolean x = b.contains(m.substring(1));
            if (m.charAt(0) == '[' && a.contains(m) && !x) return false;
            if (m.charAt(0) == '{' && !a.contains(m) && x) return false;
        }
        return true;
    }

    private static boolean maySee(int logic, List<String> modal, Set<String> a, Set<String> b) {
        if (!kSees(modal, a, b)) return false;
        if ((logic == KB || logic == TB || logic == S5) && !kSees(modal, b, a)) return false;
        for (String m : modal) {
            if (logic == S5 && a.contains(m) != b.contains(m)) return false;
            if (logic == K4 || logic == S4) {
                if (m.charAt(0) == '[' && a.contains(m) && !b.contains(m)) return false;
                if (m.charAt(0) == '{' && !a.contains(m) && b.contains(m)) return false;
            }
        }
        return true;
    }

    private static final class Sorted {
        List<Set<String>> types;
        boolean[][] sees;
        int[] fall;
        int rounds;
    }

    private static Sorted sorted(String s, int logic) {
        List<String> modal = bitsOf(s, "[{");
        Sorted sorted = new Sorted();
        sorted.types = allTypes(s, bitsOf(s, "pqrs[{"));
        int count = sorted.types.size();
        sorted.sees = new boolean[count][count];
        sorted.fall = new int[count];
        for (int a = 0; a < count; a++) {
            for (int b = 0; b < count; b++) sorted.sees[a][b] = maySee(logic, modal, sorted.types.get(a), sorted.types.get(b));
        }
        boolean self = logic == T || logic == TB || logic == S4 || logic == S5;
        Set<Integer> there = new LinkedHashSet<>();
        for (int a = 0; a < count; a++) if (!self || sorted.sees[a][a]) there.add(a);
        for (int a : there) sorted.fall[a] = NONE;
        for (int round = 1; ; round++) {
            Set<Integer> falling = new HashSet<>();
            for (int a : there) if (mustFall(sorted, modal, logic, there, a)) falling.add(a);
            if (falling.isEmpty()) return sorted;
            for (int a : falling) sorted.fall[a] = round;
            there.removeAll(falling);
            sorted.rounds = round;
        }
    }

    private static boolean mustFall(Sorted sorted, List<String> modal, int logic, Set<Integer> there, int a) {
        boolean seesAny = false;
        for (int b : there) seesAny = seesAny || sorted.sees[a][b];
        if (logic == D && !seesAny) return true;
        for (String m : modal) {
            boolean may = m.charAt(0) == '{';
            if (sorted.types.get(a).contains(m) != may) continue;
            boolean found = false;
            for (int b : there) {
                found = found || sorted.sees[a][b] && sorted.types.get(b).contains(m.substring(1)) == may;
            }
            if (!found) return true;
        }
        return false;
    }

    /** How many BITS a TYPE of a SENTENCE has. */
    public int bits(int i) {
        return isSentence(i) ? bitsOf(sentences[i], "pqrs[{").size() : 0;
    }

    private static boolean tooMany(String s) {
        return bitsOf(s, "pqrs[{").size() > 10;
    }

    public int logic(int i, int logic, int what) {
        if (!isSentence(i) || logic < 0 || logic > 7 || what < 0 || what > 6) return BAD;
        if (tooMany(sentences[i])) return STATE;
        return answer(sentences[i], logic, what);
    }

    private static int answer(String s, int logic, int what) {
        Sorted sorted = sorted(s, logic);
        int witness = NONE;
        int fit = 0;
        int stay = 0;
        boolean law = true;
        for (int t = sorted.fall.length - 1; t >= 0; t--) {
            if (sorted.fall[t] != 0) fit++;
            if (sorted.fall[t] != NONE) continue;
            stay++;
            if (sorted.types.get(t).contains(s)) witness = t;
            else law = false;
        }
        switch (what) {
            case 0: return witness == NONE ? 0 : 1;
            case 1: return law ? 1 : 0;
            case 2: return witness;
            case 3: return witness == NONE ? 0 : shown(sorted, witness, new HashSet<>());
            case 4: return fit;
            case 5: return stay;
            default: return sorted.rounds;
        }
    }

    private static int shown(Sorted sorted, int from, Set<Integer> come) {
        List<Integer> asked = new ArrayList<>();
        asked.add(from);
        come.add(from);
        for (int k = 0; k < asked.size(); k++) {
            for (int b = 0; b < sorted.fall.length; b++) {
                if (sorted.fall[b] == NONE && sorted.sees[asked.get(k)][b] && come.add(b)) asked.add(b);
            }
        }
        return come.size();
    }

    public int falls(int i, int logic, int type) {
        if (!isSentence(i) || logic < 0 || logic > 7 || type < 0) return BAD;
        String s = sentences[i];
        int bits = bitsOf(s, "pqrs[{").size();
        if (bits < 31 && type >= 1 << bits) return BAD;
        if (tooMany(s)) return STATE;
        return sorted(s, logic).fall[type];
    }

    public int follows(int i, int j, int logic) {
        if (!isSentence(i) || !isSentence(j) || logic < 0 || logic > 7) return BAD;
        String s = "(" + sentences[i] + ">" + sentences[j] + ")";
        if (tooMany(s)) return STATE;
        return answer(s, logic, 1);
    }

    // ---- worlds alike

    private boolean sameAtoms(int a, int b) {
        for (boolean[] where : isTrue) if (where[a] != where[b]) return false;
        return true;
    }

    /** No SENTENCE of this DEPTH tells two WORLDS apart. */
    private boolean[][] alikeTo(int depth, Seen seen) {
        boolean[][] alike = new boolean[n][n];
        boolean[][] less = depth == 0 ? null : alikeTo(depth - 1, seen);
        for (int a = 0; a < n; a++) {
            for (int b = 0; b < n; b++) {
                alike[a][b] = sameAtoms(a, b);
                if (depth == 0) continue;
                for (int c : seen.from(a)) alike[a][b] = alike[a][b] && meets(less, c, seen.from(b));
                for (int c : seen.from(b)) alike[a][b] = alike[a][b] && meets(less, c, seen.from(a));
            }
        }
        return alike;
    }

    private static boolean meets(boolean[][] alike, int a, Set<Integer> others) {
        for (int b : others) if (alike[a][b]) return true;
        return false;
    }

    public int heaps(int sort) {
        if (sort < 0 || sort > 3) return BAD;
        boolean[][] alike = alikeTo(n + 2, by(sort));
        Set<String> heaps = new HashSet<>();
        for (boolean[] row : alike) heaps.add(java.util.Arrays.toString(row));
        return heaps.size();
    }

    public int alike(int a, int b, int sort) {
        if (!isWorld(a) || !isWorld(b) || sort < 0 || sort > 3) return BAD;
        return alikeTo(n + 2, by(sort))[a][b] ? 1 : 0;
    }

    public int apart(int a, int b, int sort) {
        if (!isWorld(a) || !isWorld(b) || sort < 0 || sort > 3) return BAD;
        Seen seen = by(sort);
        for (int depth = 0; depth <= n + 2; depth++) if (!alikeTo(depth, seen)[a][b]) return depth;
        return NONE;
    }

    // ---- growing nets, what is told

    public int growing() {
        for (int a = 0; a < n; a++) {
            for (int b : from(2, a)) {
                for (boolean[] where : isTrue) if (where[a] && !where[b]) return 0;
            }
        }
        return 1;
    }

    private boolean growsAt(String s, int w, Seen far) {
        char kind = kind(s);
        switch (kind) {
            case 'T': return true;
            case 'F': return false;
            case '&': return growsAt(left(s), w, far) && growsAt(right(s), w, far);
            case '|': return growsAt(left(s), w, far) || growsAt(right(s), w, far);
            case '>':
                for (int v : far.from(w)) if (growsAt(left(s), v, far) && !growsAt(right(s), v, far)) return false;
                return true;
            case '!':
                for (int v : far.from(w)) if (growsAt(s.substring(1), v, far)) return false;
                return true;
            default: return isTrue["pqrs".indexOf(kind)][w];
        }
    }

    public int grows(int i) {
        if (!isSentence(i)) return BAD;
        if (depth(sentences[i]) > 0 || growing() == 0) return STATE;
        int bits = 0;
        Seen far = by(2);
        for (int w = 0; w < n; w++) if (growsAt(sentences[i], w, far)) bits += 1 << w;
        return bits;
    }

    public int shown(int i, int what) {
        if (!isSentence(i) || what < 0 || what > 1) return BAD;
        String s = sentences[i];
        if (depth(s) > 0) return STATE;
        if (what == 1) {
            for (Set<String> holding : allTypes(s, bitsOf(s, "pqrs"))) if (!holding.contains(s)) return 0;
            return 1;
        }
        List<String> bits = bitsOf(s, "pqrs>!");
        return bits.size() > 10 ? STATE : shownGrowing(s, bits) ? 1 : 0;
    }

    private static boolean meansOf(String part, Set<String> type) {
        if (part.charAt(0) == '!') return !type.contains(part.substring(1));
        return !type.contains(left(part)) || type.contains(right(part));
    }

    private static boolean shownGrowing(String s, List<String> bits) {
        List<String> going = bitsOf(s, ">!");
        Set<Set<String>> there = new LinkedHashSet<>();
        for (Set<String> type : allTypes(s, bits)) {
            boolean fit = true;
            for (String part : going) if (type.contains(part) && !meansOf(part, type)) fit = false;
            if (fit) there.add(type);
        }
        boolean any = true;
        while (any) {
            Set<Set<String>> falling = new HashSet<>();
            for (Set<String> a : there) {
                for (String part : going) {
                    boolean found = a.contains(part);
                    for (Set<String> b : there) found = found || !meansOf(part, b) && below(a, b, bits);
                    if (!found) falling.add(a);
                }
            }
            any = there.removeAll(falling);
        }
        for (Set<String> type : there) if (!type.contains(s)) return false;
        return true;
    }

    private static boolean below(Set<String> a, Set<String> b, List<String> bits) {
        for (String bit : bits) if (a.contains(bit) && !b.contains(bit)) return false;
        return true;
    }

    public int tell(int i) {
        if (!isSentence(i)) return BAD;
        boolean[] stay = where(sentences[i], by(0), isTrue);
        List<Integer> old = new ArrayList<>();
        for (int w = 0; w < n; w++) if (stay[w]) old.add(w);
        if (old.isEmpty()) return STATE;
        boolean[][] newSees = new boolean[8][8];
        boolean[][] newTrue = new boolean[4][8];
        for (int a = 0; a < old.size(); a++) {
            for (int b = 0; b < old.size(); b++) newSees[a][b] = sees[old.get(a)][old.get(b)];
            for (int k = 0; k < 4; k++) newTrue[k][a] = isTrue[k][old.get(a)];
        }
        for (int a = 0; a < 8; a++) sees[a] = newSees[a];
        for (int k = 0; k < 4; k++) isTrue[k] = newTrue[k];
        n = old.size();
        return n;
    }

    /** How many steps lead from one WORLD to another (0: itself); 99 if none do. */
    private int stepsTo(int a, int b) {
        int[] far = new int[n];
        java.util.Arrays.fill(far, 99);
        far[a] = 0;
        for (int again = 0; again < n; again++) {
            for (int c = 0; c < n; c++) {
                for (int d = 0; d < n; d++) if (sees[c][d]) far[d] = Math.min(far[d], far[c] + 1);
            }
        }
        return Math.min(99, far[b]);
    }

    public int known(int i) {
        if (!isSentence(i)) return BAD;
        boolean[] here = where(sentences[i], by(0), isTrue);
        int bits = 0;
        for (int a = 0; a < n; a++) {
            boolean known = true;
            for (int b = 0; b < n; b++) {
                for (int c = 0; c < n; c++) if (sees[a][b] && stepsTo(b, c) < 99 && !here[c]) known = false;
            }
            if (known) bits += 1 << a;
        }
        return bits;
    }

    public int steps(int i, int world) {
        if (!isSentence(i) || !isWorld(world)) return BAD;
        boolean[] here = where(sentences[i], by(0), isTrue);
        int least = 99;
        for (int b = 0; b < n; b++) if (!here[b]) least = Math.min(least, stepsTo(world, b));
        return least == 99 ? NONE : least;
    }

    public int count(int what) {
        if (what < 0 || what > 6) return BAD;
        if (what == 0) return n;
        if (what == 2) return text.length();
        if (what >= 3) return bits(isTrue[what - 3]);
        int pairs = 0;
        for (boolean[] row : sees) for (boolean is : row) if (is) pairs++;
        return pairs;
    }

    public long trace() {
        return trace;
    }
}
