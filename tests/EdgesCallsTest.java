import java.util.function.ToLongFunction;

/** "An object is used for at most 512 calls after it has been made": the last ones are answered as the first ones are. */
public final class EdgesCallsTest {
    private static final int MOST_CALLS = 512;
    /** What busy() takes. */
    private static final int CALLS_BEFORE = 24;

    public static void main(String[] args) {
        sameCallAgain();
        lastCallOfEachKind();
        byTurns();
        textAgainAndAgain();
        sentencesAgainAndAgain();
        toldDown();
        Due.end();
    }

    private static SeenWorlds busy() {
        SeenWorlds x = Due.with("p", "[q", "(r>!s)", "{(p|[s)", "F");
        x.worlds(5);
        Due.see(x, "01 12 24 43 31 44");
        x.atom(0, 9);
        x.atom(1, 24);
        return x;
    }

    private static void same(String call, ToLongFunction<SeenWorlds> asked, long due) {
        SeenWorlds x = busy();
        for (int n = CALLS_BEFORE + 1; n <= MOST_CALLS; n++) Due.is(call + " as call " + n, asked.applyAsLong(x), due);
    }

    /** What changes nothing is answered so however often it is asked. */
    private static void sameCallAgain() {
        same("worlds(0)", x -> x.worlds(0), -1);
        same("see(0, 1, 1)", x -> x.see(0, 1, 1), 1);
        same("atom(0, 9)", x -> x.atom(0, 9), 9);
        same("seen(2, 0)", x -> x.seen(2, 0), 31);
        same("sorts()", x -> x.sorts(), 8);
        same("type(112, 0)", x -> x.type(112, 0), -1);
        same("clear()", x -> x.clear(), 0);
        same("read(0)", x -> x.read(0), -10);
        same("about(2, 3)", x -> x.about(2, 3), 12);
        same("holds(1, 0)", x -> x.holds(1, 0), 4 + 16);
        same("sure(1, 2)", x -> x.sure(1, 2), 0);
        same("logic(1, 4, 5)", x -> x.logic(1, 4, 5), 3);
        same("falls(1, 4, 1)", x -> x.falls(1, 4, 1), 0);
        same("follows(1, 0, 7)", x -> x.follows(1, 0, 7), 0);
        same("heaps(3)", x -> x.heaps(3), 4);
        same("alike(1, 2, 3)", x -> x.alike(1, 2, 3), 1);
        same("apart(0, 3, 0)", x -> x.apart(0, 3, 0), 0);
        same("growing()", x -> x.growing(), 0);
        same("grows(0)", x -> x.grows(0), -2);
        same("shown(2, 0)", x -> x.shown(2, 0), 0);
        same("tell(4)", x -> x.tell(4), -2);
        same("known(0)", x -> x.known(0), 0);
        same("steps(0, 3)", x -> x.steps(0, 3), 1);
        same("count(1)", x -> x.count(1), 6);
        same("trace()", x -> x.trace(), 0);
    }

    private static void last(String call, ToLongFunction<SeenWorlds> asked) {
        SeenWorlds early = busy();
        SeenWorlds late = busy();
        for (int n = 0; n < (MOST_CALLS - CALLS_BEFORE - 1) / 10; n++) {
            late.holds(3, n % 4);
            late.logic(3, n % 8, 3);
            late.follows(1, 3, n % 8);
            late.sure(1, n % 4);
            late.heaps(n % 4);
            late.read(n % 6);
            late.shown(2, n % 2);
            late.apart(0, n % 5, 0);
            late.grows(0);
            late.tell(4);
        }
        Due.is(call + " as one of the last", asked.applyAsLong(late), asked.applyAsLong(early));
    }

    /** What goes before a call and changes nothing has no say in its answer. */
    private static void lastCallOfEachKind() {
        last("worlds(8)", x -> x.worlds(8));
        last("see(0, 0, 1)", x -> x.see(0, 0, 1));
        last("atom(3, 31)", x -> x.atom(3, 31));
        last("seen(3, 0)", x -> x.seen(3, 0));
        last("type('p', 1)", x -> x.type('p', 1));
        last("clear()", x -> x.clear());
        last("tell(0)", x -> x.tell(0));
        for (int k = 0; k < 6; k++) {
            int i = k;
            for (int l = 0; l < 8; l++) {
                int by = l;
                last("logic(" + i + ", " + l + ", 3)", x -> x.logic(i, by, 3));
                last("follows(" + i + ", 3, " + l + ")", x -> x.follows(i, 3, by));
                last("falls(" + i + ", " + l + ", 1)", x -> x.falls(i, by, 1));
            }
            last("holds(" + i + ", 2)", x -> x.holds(i, 2));
            last("known(" + i + ")", x -> x.known(i));
            last("steps(" + i + ", 0)", x -> x.steps(i, 0));
        }
    }

    private static void byTurns() {
        SeenWorlds x = new SeenWorlds();
        for (int call = 1; call <= MOST_CALLS; call++) Due.is("see, call " + call, x.see(2, 2, call & 1), call & 1 ^ 1);
        x = new SeenWorlds();
        for (int call = 1; call <= MOST_CALLS; call++) Due.is("atom, call " + call, x.atom(3, call % 8), (call - 1) % 8);
        x = new SeenWorlds();
        for (int call = 1; call <= MOST_CALLS; call++) Due.is("worlds, call " + call, x.worlds(1 + call % 8), call == 1 ? 3 : 1 + (call - 1) % 8);
    }

    /** THE TEXT fills, is full, is empty, and fills again. */
    private static void textAgainAndAgain() {
        SeenWorlds x = new SeenWorlds();
        int has = 0;
        for (int call = 1; call <= MOST_CALLS; call++) {
            if (call % 29 == 0) {
                Due.is("clear, call " + call, x.clear(), has);
                has = 0;
                continue;
            }
            boolean room = has + 8 <= 200;
            if (room) has += 8;
            Due.is("type, call " + call, x.type(-1L, 8), room ? has : -3);
        }
        Due.is("bytes at last", x.count(2), has);
    }

    /** 170 SENTENCES are read one after another, and none leaves anything behind. */
    private static void sentencesAgainAndAgain() {
        String[] texts = {"[{p", "!q", "(p&r)", "T", "{{F", "s", "(p>"};
        int[] signs = {3, 2, 3, 1, 3, 1, -13};
        int[] parts = {3, 2, 3, 1, 3, 1, 1};
        SeenWorlds x = new SeenWorlds();
        for (int n = 0; n < MOST_CALLS / 3; n++) {
            int k = n % texts.length;
            if (k == 0) x.clear();
            Due.type(x, texts[k]);
            Due.is("read " + n, x.read(n % 6), signs[k]);
            if (signs[k] > 0) Due.is("PARTS of it", x.about(n % 6, 2), parts[k]);
        }
    }

    private static void toldDown() {
        SeenWorlds x = Due.with("p", "T");
        x.worlds(8);
        for (int left = 7; left >= 1; left--) {
            x.atom(0, (1 << left) - 1);
            Due.is("told, left " + left, x.tell(0), left);
        }
        x.atom(0, 0);
        for (int call = 0; call < 400; call++) {
            Due.is("none would", x.tell(0), -2);
            Due.is("one is left", x.count(0), 1);
        }
    }
}
