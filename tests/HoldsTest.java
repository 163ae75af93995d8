/** Promises 11 and 12: where a SENTENCE HOLDS, and whether it is SURE. */
public final class HoldsTest {
    public static void main(String[] args) {
        plainOnes();
        mustAndMay();
        bySorts();
        wrongHolds();
        sure();
        sureAtMost();
        Due.end();
    }

    private static void holds(SeenWorlds x, String text, int sort, int want) {
        if (Due.read(x, 5, text) < 0) Due.is("read " + text, -1, 0);
        Due.is(text + " by " + sort, x.holds(5, sort), want);
    }

    private static void plainOnes() {
        SeenWorlds x = new SeenWorlds();
        x.worlds(4);
        x.atom(0, 3);
        x.atom(1, 5);
        x.atom(2, 15);
        x.atom(3, 8);
        holds(x, "p", 0, 3);
        holds(x, "q", 0, 5);
        holds(x, "r", 0, 15);
        holds(x, "s", 0, 8);
        holds(x, "T", 0, 15);
        holds(x, "F", 0, 0);
        holds(x, "!p", 0, 12);
        holds(x, "(p&q)", 0, 1);
        holds(x, "(p|q)", 0, 7);
        holds(x, "(p>q)", 0, 13);
        holds(x, "(q>p)", 0, 11);
        holds(x, "!(p>(q|s))", 0, 2);
        x.worlds(8);
        holds(x, "T", 3, 255);
        holds(x, "!F", 0, 255);
        x.worlds(1);
        holds(x, "(F>F)", 2, 1);
    }

    private static void mustAndMay() {
        SeenWorlds x = new SeenWorlds();
        x.worlds(5);
        Due.see(x, "01 02 13 23 24 33");
        x.atom(0, 8);
        x.atom(1, 6);
        holds(x, "[p", 0, 2 + 8 + 16);
        holds(x, "{p", 0, 2 + 4 + 8);
        holds(x, "[q", 0, 1 + 16);
        holds(x, "{q", 0, 1);
        holds(x, "[F", 0, 16);
        holds(x, "{T", 0, 15);
        holds(x, "[[p", 0, 2 + 4 + 8 + 16);
        holds(x, "{[p", 0, 1 + 2 + 4 + 8);
        holds(x, "[{p", 0, 1 + 2 + 8 + 16);
        holds(x, "{!p", 0, 1 + 4);
        holds(x, "({q&[{p)", 0, 1);
    }

    private static void bySorts() {
        SeenWorlds x = new SeenWorlds();
        x.worlds(4);
        Due.see(x, "01 12 32");
        x.atom(0, 6);
        int[] must = {1 + 2 + 4 + 8, 2 + 4, 2 + 4, 0};
        int[] may = {1 + 2 + 8, 1 + 2 + 4 + 8, 15, 15};
        for (int sort = 0; sort < 4; sort++) {
            holds(x, "[p", sort, must[sort]);
            holds(x, "{p", sort, may[sort]);
        }
        x.atom(0, 4);
        holds(x, "{p", 0, 2 + 8);
        holds(x, "{p", 1, 2 + 4 + 8);
        holds(x, "{p", 2, 15);
        holds(x, "[{p", 0, 1 + 4);
        holds(x, "[{p", 1, 2 + 4 + 8);
        x.atom(0, 8);
        holds(x, "{p", 2, 8);
        holds(x, "{p", 3, 15);
    }

    private static void wrongHolds() {
        SeenWorlds x = new SeenWorlds();
        Due.is("holds(6, 0)", x.holds(6, 0), -1);
        Due.is("holds(-1, 0)", x.holds(-1, 0), -1);
        Due.is("holds(0, 4)", x.holds(0, 4), -1);
        Due.is("holds(0, -1)", x.holds(0, -1), -1);
    }

    private static void sure() {
        SeenWorlds x = Due.with("([p>p)", "([p>[[p)", "(p>[{p)", "({p>[{p)", "(p|!p)", "([q>{q)");
        int[][] want = {
            // PLAIN, SELF, FAR, BOTH on 0 > 1 > 2
            {0, 1, 1, 1}, {0, 0, 1, 1}, {0, 0, 0, 1}, {0, 0, 0, 1}, {1, 1, 1, 1}, {0, 1, 1, 1}};
        Due.see(x, "01 12");
        x.atom(0, 5);
        for (int i = 0; i < 6; i++) {
            for (int sort = 0; sort < 4; sort++) Due.is("sure(" + i + ", " + sort + ")", x.sure(i, sort), want[i][sort]);
        }
        Due.is("p after sure", x.count(3), 5);
        Due.is("q after sure", x.count(4), 0);
        Due.see(x, "02");
        Due.is("far is plain now", x.sure(1, 0), 1);
        Due.is("sure(6, 0)", x.sure(6, 0), -1);
        Due.is("sure(-1, 0)", x.sure(-1, 0), -1);
        Due.is("sure(0, 4)", x.sure(0, 4), -1);
        Due.is("sure(0, -1)", x.sure(0, -1), -1);
    }

    private static void sureAtMost() {
        SeenWorlds x = Due.with("T", "p", "(q|!q)", "((p&r)>p)", "((p&(q&s))>q)", "((p&(q&(r&s)))>r)");
        // WORLDS times ATOMS: 12 at most.
        int[] atoms = {0, 1, 1, 2, 3, 4};
        for (int n = 1; n <= 8; n++) {
            x.worlds(n);
            for (int i = 0; i < 6; i++) {
                int want = n * atoms[i] > 12 ? -2 : i == 1 ? 0 : 1;
                Due.is("sure(" + i + ", 0) of " + n, x.sure(i, 0), want);
            }
            Due.is("BAD before STATE", x.sure(5, 4), -1);
        }
        // F is at the last choice of all alone: r and s everywhere.
        x.worlds(6);
        Due.see(x, "00 11 22 33 44 55");
        Due.read(x, 0, "({!r|{!s)");
        Due.is("not sure by the last choice", x.sure(0, 0), 0);
        Due.read(x, 0, "(r|{s)");
        Due.is("not sure by the first choice", x.sure(0, 0), 0);
    }
}
