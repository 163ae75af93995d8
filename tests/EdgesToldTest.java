/** Promises 22 to 24 at their edges: a method for each sentence of the document that names one. */
public final class EdgesToldTest {
    private static final int NONE = -9;

    public static void main(String[] args) {
        allStay();
        oneGoes();
        oneStays();
        eachSetStays();
        toldByPlain();
        toldTouchesNothingElse();
        noneWouldStay();
        tellRefused();
        knownWhereNoneIsComeTo();
        knownInOneStepOrMore();
        knownFarAway();
        knownRefused();
        stepsThere();
        stepsFewAndMany();
        stepsByTheShortestWay();
        stepsNone();
        stepsRefused();
        Due.end();
    }

    private static SeenWorlds net(int n, String pairs, String... texts) {
        SeenWorlds x = Due.with(texts);
        x.worlds(n);
        Due.see(x, pairs);
        return x;
    }

    /** Who SEES whom in the nets of which some WORLDS go: some do, and not all of these both ways. */
    private static boolean sees(int a, int b) {
        return (5 * a + 3 * b + a * b) % 7 < 3;
    }

    private static SeenWorlds mixed(int n) {
        SeenWorlds x = Due.with("p");
        x.worlds(n);
        for (int a = 0; a < n; a++) for (int b = 0; b < n; b++) if (sees(a, b)) x.see(a, b, 1);
        return x;
    }

    // "WORLDS at which a SENTENCE does not HOLD (by PLAIN) go"
    private static void allStay() {
        for (int n = 1; n <= 8; n++) {
            int worlds = n;
            Whole whole = new Whole("all of " + n, () -> {
                SeenWorlds x = mixed(worlds);
                for (int a = 0; a < 4; a++) x.atom(a, (1 << worlds) - 1 >> a);
                x.seen(2, 0);
                Due.type(x, "[q");
                return x;
            });
            whole.keeps("tell(0)", x -> x.tell(0), n);
            whole.keeps("tell(5), T", x -> x.tell(5), n);
        }
    }

    private static void oneGoes() {
        for (int n = 2; n <= 8; n++) for (int gone = 0; gone < n; gone++) stay(n, (1 << n) - 1 - (1 << gone));
    }

    private static void oneStays() {
        for (int n = 1; n <= 8; n++) {
            for (int kept = 0; kept < n; kept++) {
                stay(n, 1 << kept);
                SeenWorlds x = net(n, "", "p");
                x.see(kept, kept, 1);
                x.atom(0, 1 << kept);
                Due.is("one stays", x.tell(0), 1);
                Due.is("it sees itself still", x.seen(0, 0), 1);
                Due.is("p there", x.count(3), 1);
                Due.is("no second one", x.seen(0, 1), -1);
            }
        }
    }

    // "those that stay are numbered anew, in order"
    private static void eachSetStays() {
        for (int set = 1; set < 256; set++) stay(8, set);
        for (int set = 1; set < 32; set++) stay(5, set);
    }

    private static void stay(int n, int set) {
        SeenWorlds x = mixed(n);
        int[] where = {set, 0x5a & (1 << n) - 1, 0xc3 & (1 << n) - 1, (1 << n) - 1};
        for (int a = 0; a < 4; a++) x.atom(a, where[a]);
        int[] old = new int[8];
        int kept = 0;
        for (int w = 0; w < n; w++) if ((set >> w & 1) == 1) old[kept++] = w;
        String name = "of " + n + " stay " + set;
        Due.is(name, x.tell(0), kept);
        Due.is(name + ", WORLDS", x.count(0), kept);
        int pairs = 0;
        for (int a = 0; a < kept; a++) {
            int seen = 0;
            for (int b = 0; b < kept; b++) if (sees(old[a], old[b])) seen |= 1 << b;
            pairs += Integer.bitCount(seen);
            Due.is(name + ", seen from " + a, x.seen(0, a), seen);
        }
        Due.is(name + ", pairs", x.count(1), pairs);
        for (int a = 0; a < 4; a++) {
            int bits = 0;
            for (int w = 0; w < kept; w++) bits |= (where[a] >> old[w] & 1) << w;
            Due.is(name + ", atom " + a, x.count(3 + a), bits);
        }
        Due.is(name + ", no more", x.seen(0, kept), -1);
        Due.is(name + ", no atom more", x.atom(1, 1 << kept), -1);
        Due.is(name + ", none to see", x.see(0, kept, 1), -1);
        Due.is(name + ", there were", x.worlds(8), kept);
        Due.is(name + ", none sees any then", x.count(1), 0);
    }

    // "(by PLAIN)"
    private static void toldByPlain() {
        // Where by SELF, FAR and BOTH others would stay.
        SeenWorlds x = net(4, "01 12", "{p");
        x.atom(0, 4);
        Due.is("by SELF more hold", x.holds(0, 1), 2 + 4);
        Due.is("by FAR more hold", x.holds(0, 2), 1 + 2 + 4);
        Due.is("by PLAIN one holds", x.holds(0, 0), 2);
        Due.is("one stays", x.tell(0), 1);
        // All is judged before any goes: {T holds at 0, 1, 2 of a chain, then at two of these.
        x = net(4, "01 12 23", "{T", "[F");
        Due.is("tell {T", x.tell(0), 3);
        Due.is("tell {T again", x.tell(0), 2);
        Due.is("tell [F", x.tell(1), 1);
        Due.is("tell [F again", x.tell(1), 1);
        Due.is("tell {T, none would", x.tell(0), -2);
        Due.is("one is left", x.count(0), 1);
    }

    private static void toldTouchesNothingElse() {
        SeenWorlds x = net(8, "01 12 23", "p", "(p&[q)", "{{r", "!s", "(T>F)", "q");
        x.atom(0, 170);
        x.seen(3, 7);
        Due.type(x, "{[q");
        Due.is("tell", x.tell(0), 4);
        int[] signs = {1, 4, 3, 2, 3, 1};
        for (int i = 0; i < 6; i++) Due.is("SIGNS of " + i, x.about(i, 0), signs[i]);
        Due.is("bytes", x.count(2), 3);
        Due.is("trace", x.trace(), 1111);
        Due.is("the text", x.read(0), 3);
    }

    // "STATE: none would."
    private static void noneWouldStay() {
        for (int n = 1; n <= 8; n++) {
            int worlds = n;
            Whole whole = new Whole("none of " + n, () -> {
                SeenWorlds x = Due.with("p", "F", "(q&!q)", "!T", "{p", "{F");
                x.worlds(worlds);
                x.see(0, worlds - 1, 1);
                x.atom(1, 1);
                x.seen(1, 0);
                Due.type(x, "[q");
                return x;
            });
            for (int k = 0; k < 6; k++) {
                int i = k;
                whole.keeps("tell(" + i + ")", x -> x.tell(i), -2);
            }
        }
    }

    private static SeenWorlds busy() {
        SeenWorlds x = net(5, "00 01 12 24 43 31 44", "p", "[q", "(r>!s)", "F");
        x.atom(0, 9);
        x.atom(1, 24);
        x.seen(3, 4);
        Due.type(x, "{[q");
        return x;
    }

    private static final int[] NO_SENTENCE = {Integer.MIN_VALUE, -1, 6, 7, 32, Integer.MAX_VALUE};

    private static void tellRefused() {
        Whole busy = new Whole("busy", EdgesToldTest::busy);
        for (int out : NO_SENTENCE) busy.keeps("tell(" + out + ")", x -> x.tell(out), -1);
        busy.keeps("tell(3)", x -> x.tell(3), -2);
        busy.keeps("tell(5)", x -> x.tell(5), 5);
        busy.changes("tell(0)", x -> x.tell(0), 2);
    }

    // "(be there none)"
    private static void knownWhereNoneIsComeTo() {
        for (int n = 1; n <= 8; n++) {
            SeenWorlds x = net(n, "", "F", "T", "p");
            int all = (1 << n) - 1;
            for (int i = 0; i < 3; i++) Due.is("all know all, none seen, " + i, x.known(i), all);
            for (int w = 0; w < n; w++) x.see(w, n - 1, 1);
            Due.is("F is known nowhere", x.known(0), 0);
            Due.is("T everywhere", x.known(1), all);
            Due.is("p nowhere", x.known(2), 0);
            x.atom(0, 1 << n - 1);
            Due.is("p everywhere, true at the one seen", x.known(2), all);
            x.see(n - 1, n - 1, 0);
            x.atom(0, all >> 1);
            Due.is("p at the last alone, that sees none", x.known(2), 1 << n - 1);
        }
    }

    // "at all WORLDS that can be come to from there in one step or more"
    private static void knownInOneStepOrMore() {
        // Itself counts only where a way leads back to it.
        SeenWorlds x = net(3, "01 12", "p");
        x.atom(0, 6);
        Due.is("not at itself", x.known(0), 7);
        x.see(0, 0, 1);
        Due.is("itself in one step", x.known(0), 6);
        x.see(0, 0, 0);
        x.see(2, 0, 1);
        Due.is("itself in three steps", x.known(0), 0);
        x.atom(0, 7);
        Due.is("all round", x.known(0), 7);
        // One step is not enough.
        x = net(3, "01 12", "p");
        x.atom(0, 2);
        Due.is("in two steps not", x.known(0), 4);
        x.atom(0, 4);
        Due.is("in one step not", x.known(0), 2 + 4);
    }

    private static void knownFarAway() {
        SeenWorlds x = net(8, "01 12 23 34 45 56 67", "p", "[p", "{T");
        for (int w = 0; w < 8; w++) {
            x.atom(0, 255 - (1 << w));
            // From all before it, it is come to.
            Due.is("p but at " + w, x.known(0), 256 - (1 << w));
            Due.is("[p but before " + w, x.known(1), w == 0 ? 255 : 256 - (1 << w - 1));
        }
        Due.is("{T", x.known(2), 128);
        x.atom(0, 127);
        x.see(3, 4, 0);
        Due.is("behind the gap none knows", x.known(0), 15 + 128);
        // What a SENTENCE says is judged by PLAIN.
        x = net(3, "01 12", "[p");
        x.atom(0, 4);
        Due.is("[p by PLAIN", x.holds(0, 0), 2 + 4);
        Due.is("[p is known", x.known(0), 7);
    }

    private static void knownRefused() {
        Whole busy = new Whole("busy", EdgesToldTest::busy);
        for (int out : NO_SENTENCE) busy.keeps("known(" + out + ")", x -> x.known(out), -1);
        busy.keeps("known(5)", x -> x.known(5), 31);
        busy.keeps("known(3)", x -> x.known(3), 0);
    }

    // "(0: there)"
    private static void stepsThere() {
        for (int n = 1; n <= 8; n++) {
            SeenWorlds x = net(n, "", "F", "p", "!p", "T");
            for (int w = 0; w < n; w++) {
                Due.is("F is nowhere", x.steps(0, w), 0);
                Due.is("p is nowhere", x.steps(1, w), 0);
                Due.is("!p is everywhere", x.steps(2, w), NONE);
                Due.is("T is everywhere", x.steps(3, w), NONE);
                x.atom(0, 1 << w);
                for (int v = 0; v < n; v++) Due.is("!p but at " + w, x.steps(2, v), v == w ? 0 : NONE);
                x.atom(0, 0);
            }
        }
    }

    // "by how few steps a WORLD is come to at which it does not"
    private static void stepsFewAndMany() {
        for (int n = 1; n <= 8; n++) {
            SeenWorlds x = net(n, "", "p", "{T");
            for (int w = 0; w + 1 < n; w++) x.see(w, w + 1, 1);
            for (int not = 0; not < n; not++) {
                x.atom(0, (1 << n) - 1 - (1 << not));
                for (int w = 0; w < n; w++) Due.is("of " + n + ", p but at " + not + ", from " + w, x.steps(0, w), w <= not ? not - w : NONE);
            }
            for (int w = 0; w < n; w++) Due.is("{T from " + w, x.steps(1, w), n - 1 - w);
            x.see(n - 1, 0, 1);
            for (int not = 0; not < n; not++) {
                x.atom(0, (1 << n) - 1 - (1 << not));
                for (int w = 0; w < n; w++) Due.is("round, from " + w, x.steps(0, w), (not - w + n) % n);
            }
        }
    }

    private static void stepsByTheShortestWay() {
        SeenWorlds x = net(8, "01 12 23 34 45 56 67 03 36 70", "p");
        x.atom(0, 127);
        int[] want = {3, 4, 3, 2, 3, 2, 1, 0};
        for (int w = 0; w < 8; w++) Due.is("to 7 from " + w, x.steps(0, w), want[w]);
        // The nearest of some.
        x.atom(0, 255 - 4 - 32 - 128);
        int[] near = {2, 1, 0, 2, 1, 0, 1, 0};
        for (int w = 0; w < 8; w++) Due.is("to 2, 5 or 7 from " + w, x.steps(0, w), near[w]);
    }

    private static void stepsNone() {
        SeenWorlds x = net(8, "01 10 23 44", "p");
        x.atom(0, 255 - 8);
        int[] want = {NONE, NONE, 1, 0, NONE, NONE, NONE, NONE};
        for (int w = 0; w < 8; w++) Due.is("from " + w, x.steps(0, w), want[w]);
        // NONE where it HOLDS all over what can be come to and there; ALL KNOW asks not for there.
        SeenWorlds y = net(2, "01", "p");
        y.atom(0, 2);
        Due.is("there", y.steps(0, 0), 0);
        Due.is("known there", y.known(0), 3);
    }

    private static void stepsRefused() {
        Whole busy = new Whole("busy", EdgesToldTest::busy);
        for (int out : NO_SENTENCE) {
            for (int w : new int[] {-1, 0, 4, 5}) busy.keeps("steps(" + out + ", " + w + ")", x -> x.steps(out, w), -1);
        }
        for (int w : new int[] {Integer.MIN_VALUE, -1, 5, 6, 7, 8, 32, Integer.MAX_VALUE}) {
            for (int k = 0; k < 6; k++) {
                int i = k;
                busy.keeps("steps(" + i + ", " + w + ")", x -> x.steps(i, w), -1);
            }
        }
        busy.keeps("steps(5, 4)", x -> x.steps(5, 4), NONE);
        busy.keeps("steps(3, 4)", x -> x.steps(3, 4), 0);
        busy.keeps("steps(0, 0)", x -> x.steps(0, 0), 1);
    }
}
