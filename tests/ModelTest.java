/** Long runs of calls of all kinds, each answer compared with the one of Model. */
public final class ModelTest {
    private static final int RUNS = 120;
    private static final String[] OFTEN = {"([p>p)", "(p|!p)", "{!q", "((p>q)|(q>p))", "(!!p>p)", "[({r&s)"};

    private long chance;

    private ModelTest(long seed) {
        chance = seed;
    }

    public static void main(String[] args) {
        for (int run = 1; run <= RUNS && Due.allRight(); run++) new ModelTest(run * 7919L).run(run);
        Due.end();
    }

    /** Always the same numbers: a test must fail twice in the same way. */
    private int below(int n) {
        chance = chance * 6364136223846793005L + 1442695040888963407L;
        return (int) ((chance >>> 33) % n);
    }

    /** 0 .. n - 1, and now and then a number beside these. */
    private int number(int n) {
        switch (below(40)) {
            case 0: return -1;
            case 1: return n;
            default: return below(n);
        }
    }

    private String sentence(int size, boolean plain) {
        if (size <= 1) return "pqrsTFpqpp".substring(below(10)).substring(0, 1);
        int kind = below(plain ? 5 : 9);
        if (kind == 0) return "!" + sentence(size - 1, plain);
        if (kind >= 5) return (kind < 7 ? "[" : "{") + sentence(size - 1, plain);
        int left = 1 + below(size - 1);
        return "(" + sentence(left, plain) + "&|>>".charAt(below(4)) + sentence(size - 1 - left, plain) + ")";
    }

    private String text() {
        if (below(5) == 0) return OFTEN[below(OFTEN.length)];
        String s = sentence(1 + below(below(6) == 0 ? 30 : 9), below(2) == 0);
        if (below(5) > 0) return s;
        int place = below(s.length() + 1);
        int behind = Math.min(s.length(), place + below(2));
        return s.substring(0, place) + "pT!([{&|>)x".charAt(below(11)) + s.substring(behind);
    }

    private void run(int run) {
        SeenWorlds x = new SeenWorlds();
        Model m = new Model();
        int plan = below(3);
        for (int call = 1; call <= 512 && Due.allRight(); call++) {
            String name = "run " + run + ", call " + call + ", ";
            if (below(4) == 0) {
                change(name, x, m, plan);
            } else {
                ask(name, x, m);
            }
        }
    }

    private void change(String name, SeenWorlds x, Model m, int plan) {
        int a = number(m.count(0));
        int b = number(m.count(0));
        int i = number(6);
        switch (below(10)) {
            case 0:
                int n = below(6) == 0 ? number(10) : plan == 0 ? 8 : 2 + below(7);
                Due.is(name + "worlds(" + n + ")", x.worlds(n), m.worlds(n));
                break;
            case 1: case 2: case 3: case 4:
                int is = below(3) > 0 ? 1 : number(2);
                Due.is(name + "see(" + a + ", " + b + ", " + is + ")", x.see(a, b, is), m.see(a, b, is));
                break;
            case 5: case 6:
                int where = plan == 1 ? (1 << m.count(0)) - (1 << below(m.count(0))) : number(1 << m.count(0));
                Due.is(name + "atom(" + i + ", " + where + ")", x.atom(i, where), m.atom(i, where));
                break;
            case 7:
                if (below(4) == 0) Due.is(name + "tell(" + i + ")", x.tell(i), m.tell(i));
                break;
            default:
                newSentence(name, x, m, i);
        }
    }

    private void newSentence(String name, SeenWorlds x, Model m, int i) {
        if (below(6) > 0) Due.is(name + "clear()", x.clear(), m.clear());
        String text = text();
        for (int from = 0; from < text.length(); from += 8) {
            int n = Math.min(8, text.length() - from);
            long v = below(1000);
            for (int k = 0; k < n; k++) v = v << 8 | text.charAt(from + k);
            Due.is(name + "type(" + v + ", " + n + ")", x.type(v, n), m.type(v, n));
        }
        if (below(20) == 0) Due.is(name + "type(7, 9)", x.type(7, 9), m.type(7, 9));
        Due.is(name + "read(" + i + ") of " + text, x.read(i), m.read(i));
    }

    private void ask(String name, SeenWorlds x, Model m) {
        int a = number(m.count(0));
        int b = number(m.count(0));
        int i = number(6);
        int j = number(6);
        int sort = number(4);
        int logic = number(8);
        int what = number(7);
        // The model is slow where TYPES are many.
        boolean small = m.bits(i) + m.bits(j) <= 9 || below(20) == 0;
        switch (below(20)) {
            case 0: Due.is(name + "seen(" + sort + ", " + a + ")", x.seen(sort, a), m.seen(sort, a)); break;
            case 1: Due.is(name + "sorts()", x.sorts(), m.sorts()); break;
            case 2: Due.is(name + "about(" + i + ", " + what + ")", x.about(i, what), m.about(i, what)); break;
            case 3: case 4: Due.is(name + "holds(" + i + ", " + sort + ")", x.holds(i, sort), m.holds(i, sort)); break;
            case 5: Due.is(name + "sure(" + i + ", " + sort + ")", x.sure(i, sort), m.sure(i, sort)); break;
            case 6: case 7:
                if (small) Due.is(name + "logic(" + i + ", " + logic + ", " + what + ")", x.logic(i, logic, what), m.logic(i, logic, what));
                break;
            case 8:
                int type = below(1 << below(11));
                if (small) Due.is(name + "falls(" + i + ", " + logic + ", " + type + ")", x.falls(i, logic, type), m.falls(i, logic, type));
                break;
            case 9:
                if (small) Due.is(name + "follows(" + i + ", " + j + ", " + logic + ")", x.follows(i, j, logic), m.follows(i, j, logic));
                break;
            case 10: Due.is(name + "heaps(" + sort + ")", x.heaps(sort), m.heaps(sort)); break;
            case 11: Due.is(name + "alike(" + a + ", " + b + ", " + sort + ")", x.alike(a, b, sort), m.alike(a, b, sort)); break;
            case 12: Due.is(name + "apart(" + a + ", " + b + ", " + sort + ")", x.apart(a, b, sort), m.apart(a, b, sort)); break;
            case 13: Due.is(name + "growing()", x.growing(), m.growing()); break;
            case 14: Due.is(name + "grows(" + i + ")", x.grows(i), m.grows(i)); break;
            case 15: Due.is(name + "shown(" + i + ", " + sort % 2 + ")", x.shown(i, sort % 2), m.shown(i, sort % 2)); break;
            case 16: Due.is(name + "known(" + i + ")", x.known(i), m.known(i)); break;
            case 17: Due.is(name + "steps(" + i + ", " + a + ")", x.steps(i, a), m.steps(i, a)); break;
            case 18: Due.is(name + "count(" + what + ")", x.count(what), m.count(what)); break;
            default: Due.is(name + "trace()", x.trace(), m.trace());
        }
    }
}
