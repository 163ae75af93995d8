/** Promises 16 to 18 at their edges: a method for each sentence of the document that names one. */
public final class EdgesAlikeTest {
    private static final int NONE = -9;

    public static void main(String[] args) {
        itself();
        oneHeapAndEight();
        sameAtoms();
        someSeenAndNone();
        bothWays();
        howManySeenIsNothing();
        loopsAndWays();
        deepestOfAll();
        leastDepth();
        bySorts();
        refused();
        Due.end();
    }

    private static SeenWorlds net(int n, String pairs) {
        SeenWorlds x = new SeenWorlds();
        x.worlds(n);
        Due.see(x, pairs);
        return x;
    }

    /** TOLD APART, asked both ways round, and ALIKE with it. */
    private static void apart(SeenWorlds x, int a, int b, int sort, int want) {
        String call = "(" + a + ", " + b + ", " + sort + ")";
        Due.is("apart" + call, x.apart(a, b, sort), want);
        Due.is("apart the other way" + call, x.apart(b, a, sort), want);
        Due.is("alike" + call, x.alike(a, b, sort), want == NONE ? 1 : 0);
        Due.is("alike the other way" + call, x.alike(b, a, sort), want == NONE ? 1 : 0);
    }

    private static void itself() {
        for (int n = 1; n <= 8; n++) {
            SeenWorlds x = net(n, "");
            x.see(0, n - 1, 1);
            x.atom(3, 1 << n - 1);
            for (int w = 0; w < n; w++) for (int sort = 0; sort < 4; sort++) apart(x, w, w, sort, NONE);
        }
    }

    // "HEAPS: how many unlike ones."
    private static void oneHeapAndEight() {
        for (int n = 1; n <= 8; n++) {
            SeenWorlds x = net(n, "");
            for (int sort = 0; sort < 4; sort++) Due.is("all alike", x.heaps(sort), 1);
            // Each WORLD its own number by three ATOMS.
            for (int a = 0; a < 3; a++) {
                int where = 0;
                for (int w = 0; w < n; w++) where |= (w >> a & 1) << w;
                x.atom(a + 1, where);
            }
            for (int sort = 0; sort < 4; sort++) {
                Due.is("all unlike", x.heaps(sort), n);
                for (int a = 0; a < n; a++) for (int b = 0; b < n; b++) apart(x, a, b, sort, a == b ? NONE : 0);
            }
            x.worlds(n);
            for (int w = 0; w + 1 < n; w++) x.see(w, w + 1, 1);
            Due.is("a chain, PLAIN", x.heaps(0), n);
            for (int sort = 1; sort < 4; sort++) Due.is("a chain, " + sort, x.heaps(sort), 1);
        }
    }

    // "if the same ATOMS are true there"
    private static void sameAtoms() {
        for (int a = 0; a < 4; a++) {
            for (int w = 0; w < 8; w++) {
                SeenWorlds x = net(8, "");
                for (int b = 0; b < 4; b++) if (b != a) x.atom(b, 255);
                x.atom(a, 1 << w);
                for (int sort = 0; sort < 4; sort++) {
                    Due.is("two heaps", x.heaps(sort), 2);
                    apart(x, w, (w + 1) % 8, sort, 0);
                    apart(x, (w + 1) % 8, (w + 3) % 8, sort, NONE);
                }
                x.atom(a, 255);
                Due.is("one heap", x.heaps(0), 1);
            }
        }
    }

    // "each one SEEN from one has an ALIKE one SEEN from the other"
    private static void someSeenAndNone() {
        SeenWorlds x = net(4, "01 22");
        apart(x, 0, 1, 0, 1);
        apart(x, 1, 3, 0, NONE);
        apart(x, 2, 3, 0, 1);
        apart(x, 0, 2, 0, 2);
        Due.is("heaps", x.heaps(0), 3);
        for (int sort = 1; sort < 4; sort++) {
            apart(x, 0, 1, sort, NONE);
            apart(x, 0, 2, sort, NONE);
            Due.is("heaps by " + sort, x.heaps(sort), 1);
        }
        // It isn't enough that some one is ALIKE: each must have one.
        x = net(5, "02 12 13");
        x.atom(0, 8);
        apart(x, 0, 1, 0, 1);
        x.see(0, 3, 1);
        apart(x, 0, 1, 0, NONE);
        x.see(0, 2, 0);
        apart(x, 0, 1, 0, 1);
    }

    // "both ways"
    private static void bothWays() {
        // All that 0 sees has an ALIKE one seen from 1, but 1 sees one more; and the same with 0 and 1 changed.
        SeenWorlds x = net(6, "02 12 13 34");
        apart(x, 0, 1, 0, 2);
        x = net(6, "12 02 03 34");
        apart(x, 0, 1, 0, 2);
        x = net(6, "02 12 13");
        x.atom(2, 8);
        apart(x, 0, 1, 0, 1);
        x = net(6, "12 02 03");
        x.atom(2, 8);
        apart(x, 0, 1, 0, 1);
    }

    private static void howManySeenIsNothing() {
        SeenWorlds x = net(8, "02 03 04 05 06 07 12");
        apart(x, 0, 1, 0, NONE);
        Due.is("heaps", x.heaps(0), 2);
        x.atom(1, 128);
        apart(x, 0, 1, 0, 1);
        apart(x, 2, 7, 0, 0);
    }

    private static void loopsAndWays() {
        // Loops of 1, 2 and 5: none sees an end.
        SeenWorlds x = net(8, "00 12 21 34 45 56 67 73");
        for (int a = 0; a < 8; a++) for (int b = 0; b < 8; b++) apart(x, a, b, 0, NONE);
        Due.is("one heap", x.heaps(0), 1);
        // One ATOM in the greatest loop: its WORLDS lie 0 to 4 steps before it.
        x.atom(0, 128);
        Due.is("heaps of the loop", x.heaps(0), 6);
        apart(x, 0, 1, 0, NONE);
        apart(x, 0, 6, 0, 1);
        apart(x, 0, 5, 0, 2);
        apart(x, 0, 4, 0, 3);
        apart(x, 0, 3, 0, 4);
        apart(x, 3, 4, 0, 3);
    }

    // "TOLD APART: the least DEPTH"
    private static void deepestOfAll() {
        for (int n = 2; n <= 8; n++) {
            SeenWorlds x = net(n, "");
            for (int w = 0; w + 1 < n; w++) x.see(w, w + 1, 1);
            for (int a = 0; a < n; a++) for (int b = 0; b < n; b++) apart(x, a, b, 0, a == b ? NONE : n - Math.max(a, b));
            x.see(n - 1, n - 1, 1);
            for (int a = 0; a < n; a++) apart(x, 0, a, 0, NONE);
            x.atom(3, 1 << n - 1);
            for (int a = 0; a < n; a++) {
                for (int b = 0; b < n; b++) apart(x, a, b, 1, a == b ? NONE : n - 1 - Math.max(a, b));
            }
        }
    }

    // "of a SENTENCE by which one HOLDS at just one of both (0: ATOMS do)"
    private static void leastDepth() {
        SeenWorlds x = net(8, "01 12 23 34 45 56 67");
        for (int depth = 1; depth <= 7; depth++) {
            Due.read(x, 0, Due.times("{", depth) + "T");
            Due.read(x, 1, Due.times("{", depth - 1) + "T");
            int a = 7 - depth;
            apart(x, a, a + 1, 0, depth);
            Due.is("it holds at one of both", x.holds(0, 0) >> a & 3, 1);
            Due.is("less does not", x.holds(1, 0) >> a & 3, 3);
        }
        // ATOMS tell before any step does.
        x.atom(2, 1);
        apart(x, 0, 1, 0, 0);
        apart(x, 1, 2, 0, 6);
        x.atom(2, 3);
        apart(x, 0, 1, 0, 1);
        apart(x, 1, 2, 0, 0);
    }

    private static void bySorts() {
        SeenWorlds x = net(8, "01 21 23 43 45 65 67");
        x.atom(0, 128);
        int[] heaps = {4, 3, 3, 2};
        int[][] apart = {{1, 1, 1, NONE}, {2, 2, NONE, NONE}, {NONE, NONE, NONE, NONE}};
        for (int sort = 0; sort < 4; sort++) {
            Due.is("heaps(" + sort + ")", x.heaps(sort), heaps[sort]);
            apart(x, 5, 6, sort, apart[0][sort]);
        }
        apart(x, 3, 1, 0, NONE);
        apart(x, 0, 2, 0, NONE);
        apart(x, 0, 4, 0, NONE);
        apart(x, 0, 1, 0, 1);
        apart(x, 0, 1, 1, NONE);
        apart(x, 6, 4, 0, 1);
        apart(x, 6, 4, 3, NONE);
    }

    private static SeenWorlds busy() {
        SeenWorlds x = Due.with("p", "[q", "(r>!s)");
        x.worlds(5);
        Due.see(x, "00 01 12 24 43 31 44");
        x.atom(0, 9);
        x.seen(3, 4);
        Due.type(x, "{[q");
        return x;
    }

    private static void refused() {
        Whole busy = new Whole("busy", EdgesAlikeTest::busy);
        int[] sorts = {Integer.MIN_VALUE, -1, 4, 5, Integer.MAX_VALUE};
        int[] worlds = {Integer.MIN_VALUE, -1, 5, 6, 7, 8, 32, Integer.MAX_VALUE};
        for (int sort : sorts) {
            busy.keeps("heaps(" + sort + ")", x -> x.heaps(sort), -1);
            busy.keeps("alike(0, 0, " + sort + ")", x -> x.alike(0, 0, sort), -1);
            busy.keeps("alike(4, 3, " + sort + ")", x -> x.alike(4, 3, sort), -1);
            busy.keeps("apart(0, 0, " + sort + ")", x -> x.apart(0, 0, sort), -1);
            busy.keeps("apart(4, 3, " + sort + ")", x -> x.apart(4, 3, sort), -1);
        }
        for (int w : worlds) {
            for (int s = -1; s <= 4; s++) {
                int sort = s;
                String end = ", " + s + ")";
                busy.keeps("alike(" + w + ", 0" + end, x -> x.alike(w, 0, sort), -1);
                busy.keeps("alike(0, " + w + end, x -> x.alike(0, w, sort), -1);
                busy.keeps("alike(" + w + ", " + w + end, x -> x.alike(w, w, sort), -1);
                busy.keeps("apart(" + w + ", 0" + end, x -> x.apart(w, 0, sort), -1);
                busy.keeps("apart(0, " + w + end, x -> x.apart(0, w, sort), -1);
                busy.keeps("apart(" + w + ", " + w + end, x -> x.apart(w, w, sort), -1);
            }
        }
        busy.keeps("heaps(0)", x -> x.heaps(0), 5);
        busy.keeps("alike(4, 4, 3)", x -> x.alike(4, 4, 3), 1);
        busy.keeps("apart(4, 4, 3)", x -> x.apart(4, 4, 3), NONE);
        busy.keeps("apart(4, 3, 0)", x -> x.apart(4, 3, 0), 0);
    }
}
