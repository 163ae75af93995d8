/** Promises 1 to 6, 25 and 26 at their edges: a method for each sentence of the document that names one. */
public final class EdgesNetTest {
    public static void main(String[] args) {
        newObject();
        oneObjectIsNotAnother();
        worldsFromOneToEight();
        worldsBeginAnew();
        worldsRefused();
        seeEachPair();
        seeRefused();
        atomAtAllAndNone();
        atomRefused();
        seenOfNone();
        seenOfAll();
        seenAgainAndAgain();
        seenBothWays();
        seenRefused();
        sortsOfNoneAndAll();
        sortsOneShort();
        sortsOfOne();
        countAtLeastAndMost();
        countRefused();
        traceOfEachSort();
        traceOfSeenAlone();
        traceOfManyCalls();
        Due.end();
    }

    private static SeenWorlds net(int n, String pairs) {
        SeenWorlds x = new SeenWorlds();
        x.worlds(n);
        Due.see(x, pairs);
        return x;
    }

    private static SeenWorlds full(int n) {
        SeenWorlds x = net(n, "");
        for (int a = 0; a < n; a++) for (int b = 0; b < n; b++) x.see(a, b, 1);
        return x;
    }

    private static String itself(int n) {
        StringBuilder pairs = new StringBuilder();
        for (int w = 0; w < n; w++) pairs.append(w).append(w).append(' ');
        return pairs.toString();
    }

    // "3 at first", "none at first", "none at first", "At first all are T"
    private static void newObject() {
        SeenWorlds x = new SeenWorlds();
        int[] counts = {3, 0, 0, 0, 0, 0, 0};
        for (int what = 0; what < 7; what++) Due.is("new: count(" + what + ")", x.count(what), counts[what]);
        for (int w = 0; w < 3; w++) Due.is("new: seen(0, " + w + ")", x.seen(0, w), 0);
        Due.is("new: seen(0, 3)", x.seen(0, 3), -1);
        int[] abouts = {1, 0, 1, 0, 1};
        for (int i = 0; i < 6; i++) {
            for (int what = 0; what < 5; what++) Due.is("new: about(" + i + ", " + what + ")", x.about(i, what), abouts[what]);
            for (int sort = 0; sort < 4; sort++) {
                Due.is("new: holds(" + i + ", " + sort + ")", x.holds(i, sort), 7);
                Due.is("new: sure(" + i + ", " + sort + ")", x.sure(i, sort), 1);
            }
            for (int l = 0; l < 8; l++) Due.is("new: law of " + l, x.logic(i, l, 1), 1);
            Due.is("new: shown(" + i + ", 0)", x.shown(i, 0), 1);
            Due.is("new: shown(" + i + ", 1)", x.shown(i, 1), 1);
            Due.is("new: grows(" + i + ")", x.grows(i), 7);
            Due.is("new: known(" + i + ")", x.known(i), 7);
            Due.is("new: steps(" + i + ", 2)", x.steps(i, 2), -9);
        }
        for (int sort = 0; sort < 4; sort++) Due.is("new: heaps(" + sort + ")", x.heaps(sort), 1);
        Due.is("new: growing()", x.growing(), 1);
        Due.is("new: sorts()", x.sorts(), 2 + 4 + 16 + 32);
        Due.is("new: read(0)", x.read(0), -10);
        Due.is("new: clear()", x.clear(), 0);
        Due.is("new: trace()", new SeenWorlds().trace(), 0);
        Due.is("new: tell(0)", x.tell(0), 3);
        Due.is("new: worlds(8)", x.worlds(8), 3);
    }

    private static void oneObjectIsNotAnother() {
        String before = Whole.of(new SeenWorlds());
        SeenWorlds kept = new SeenWorlds();
        SeenWorlds x = full(8);
        for (int a = 0; a < 4; a++) x.atom(a, 1 << a);
        for (int i = 0; i < 6; i++) Due.read(x, i, "{!(p&[q)");
        x.seen(3, 0);
        x.type(112, 1);
        Due.is("another object stays new", Whole.of(kept).equals(before) ? 1 : 0, 1);
        Due.is("a later one is new", Whole.of(new SeenWorlds()).equals(before) ? 1 : 0, 1);
    }

    // "WORLDS 0 .. n - 1 (n 1 .. 8"
    private static void worldsFromOneToEight() {
        SeenWorlds x = new SeenWorlds();
        int were = 3;
        for (int n : new int[] {1, 2, 3, 4, 5, 6, 7, 8, 8, 1, 1, 8, 3}) {
            Due.is("worlds(" + n + ")", x.worlds(n), were);
            Due.is("count(0)", x.count(0), n);
            Due.is("the last world of " + n, x.seen(1, n - 1), 1 << n - 1);
            Due.is("one more than " + n, x.seen(1, n), -1);
            were = n;
        }
    }

    // "n WORLDS; none SEE any, no ATOM is true"
    private static void worldsBeginAnew() {
        for (int n = 1; n <= 8; n++) {
            SeenWorlds x = full(8);
            for (int a = 0; a < 4; a++) x.atom(a, 255);
            Due.is("worlds(" + n + ")", x.worlds(n), 8);
            for (int back = 0; back < 2; back++) {
                Due.is("pairs", x.count(1), 0);
                for (int a = 0; a < 4; a++) Due.is("atom " + a, x.count(3 + a), 0);
                for (int w = 0; w < x.count(0); w++) Due.is("seen(0, " + w + ")", x.seen(0, w), 0);
                x.worlds(8);
            }
        }
    }

    private static void worldsRefused() {
        Whole busy = new Whole("busy", EdgesNetTest::busy);
        for (int n : new int[] {Integer.MIN_VALUE, -8, -1, 0, 9, 10, 256, 257, 264, Integer.MAX_VALUE}) {
            busy.keeps("worlds(" + n + ")", x -> x.worlds(n), -1);
        }
        busy.changes("worlds(5)", x -> x.worlds(5), 5);
        busy.changes("worlds(1)", x -> x.worlds(1), 5);
        busy.changes("worlds(8)", x -> x.worlds(8), 5);
    }

    private static SeenWorlds busy() {
        SeenWorlds x = Due.with("p", "[q", "(r>!s)", "{(p|[s)", "F");
        x.worlds(5);
        Due.see(x, "00 01 12 24 43 31 44");
        for (int a = 0; a < 4; a++) x.atom(a, 3 + 6 * a);
        x.seen(3, 4);
        Due.type(x, "{[q");
        return x;
    }

    // "Whether a WORLD SEES another one (or itself) becomes is: what it was."
    private static void seeEachPair() {
        for (int n = 1; n <= 8; n++) {
            for (int pair = 0; pair < n * n; pair++) {
                int a = pair / n;
                int b = pair % n;
                SeenWorlds x = net(n, "");
                String call = "see(" + a + ", " + b + ", .) of " + n;
                Due.is(call + " to 0, was 0", x.see(a, b, 0), 0);
                Due.is(call + " to 1, was 0", x.see(a, b, 1), 0);
                for (int w = 0; w < n; w++) Due.is(call + ": seen(0, " + w + ")", x.seen(0, w), w == a ? 1 << b : 0);
                Due.is(call + ": one pair", x.count(1), 1);
                Due.is(call + " to 1, was 1", x.see(a, b, 1), 1);
                Due.is(call + " to 0, was 1", x.see(a, b, 0), 1);
                Due.is(call + ": no pair", x.count(1), 0);
                x = full(n);
                Due.is(call + " of all", x.see(a, b, 0), 1);
                int all = (1 << n) - 1;
                for (int w = 0; w < n; w++) Due.is(call + ": seen", x.seen(0, w), w == a ? all - (1 << b) : all);
            }
        }
    }

    private static void seeRefused() {
        Whole busy = new Whole("busy", EdgesNetTest::busy);
        int[] out = {Integer.MIN_VALUE, -1, 5, 6, 8, 32, 33, Integer.MAX_VALUE};
        for (int w : out) {
            for (int is = 0; is < 2; is++) {
                int to = is;
                busy.keeps("see(" + w + ", 0, " + is + ")", x -> x.see(w, 0, to), -1);
                busy.keeps("see(0, " + w + ", " + is + ")", x -> x.see(0, w, to), -1);
                busy.keeps("see(" + w + ", " + w + ", " + is + ")", x -> x.see(w, w, to), -1);
            }
        }
        for (int is : new int[] {Integer.MIN_VALUE, -1, 2, 3, 256, Integer.MAX_VALUE}) {
            busy.keeps("see(0, 2, " + is + ")", x -> x.see(0, 2, is), -1);
            busy.keeps("see(0, 1, " + is + ")", x -> x.see(0, 1, is), -1);
        }
        busy.changes("see(4, 0, 1)", x -> x.see(4, 0, 1), 0);
        busy.changes("see(4, 4, 0)", x -> x.see(4, 4, 0), 1);
        busy.keeps("see(4, 0, 0)", x -> x.see(4, 0, 0), 0);
        busy.keeps("see(4, 4, 1)", x -> x.see(4, 4, 1), 1);
    }

    // "An ATOM (0 .. 3) is true at WORLDS (bits): where it was."
    private static void atomAtAllAndNone() {
        for (int n = 1; n <= 8; n++) {
            int all = (1 << n) - 1;
            for (int a = 0; a < 4; a++) {
                SeenWorlds x = net(n, "");
                Due.is("atom(" + a + ", all) of " + n, x.atom(a, all), 0);
                for (int b = 0; b < 4; b++) Due.is("atom " + b, x.count(3 + b), b == a ? all : 0);
                Due.is("atom(" + a + ", all but the last)", x.atom(a, all >> 1), all);
                Due.is("atom(" + a + ", the last)", x.atom(a, 1 << n - 1), all >> 1);
                Due.is("atom(" + a + ", none)", x.atom(a, 0), 1 << n - 1);
                Due.is("atom(" + a + ", none) again", x.atom(a, 0), 0);
                Due.is("atom(" + a + ", one bit too many) of " + n, x.atom(a, all + 1), -1);
                Due.is("nothing changed", x.count(3 + a), 0);
            }
        }
    }

    private static void atomRefused() {
        Whole busy = new Whole("busy", EdgesNetTest::busy);
        for (int where : new int[] {Integer.MIN_VALUE, -32, -1, 32, 33, 63, 64, 256, Integer.MAX_VALUE}) {
            for (int a = 0; a < 4; a++) {
                int atom = a;
                busy.keeps("atom(" + a + ", " + where + ")", x -> x.atom(atom, where), -1);
            }
        }
        for (int a : new int[] {Integer.MIN_VALUE, -1, 4, 5, 32, Integer.MAX_VALUE}) {
            busy.keeps("atom(" + a + ", 0)", x -> x.atom(a, 0), -1);
            busy.keeps("atom(" + a + ", 31)", x -> x.atom(a, 31), -1);
        }
        busy.changes("atom(0, 31)", x -> x.atom(0, 31), 3);
        busy.changes("atom(3, 0)", x -> x.atom(3, 0), 21);
        busy.keeps("atom(3, 21)", x -> x.atom(3, 21), 21);
    }

    // "PLAIN those that it SEES", "SELF up, and itself"
    private static void seenOfNone() {
        for (int n = 1; n <= 8; n++) {
            SeenWorlds x = net(n, "");
            for (int w = 0; w < n; w++) {
                Due.is("PLAIN of none", x.seen(0, w), 0);
                for (int sort = 1; sort < 4; sort++) Due.is("only itself by " + sort, x.seen(sort, w), 1 << w);
            }
        }
    }

    private static void seenOfAll() {
        for (int n = 1; n <= 8; n++) {
            SeenWorlds x = full(n);
            for (int w = 0; w < n; w++) {
                for (int sort = 0; sort < 4; sort++) Due.is("all of " + n + " by " + sort, x.seen(sort, w), (1 << n) - 1);
                x.see(w, w, 0);
                Due.is("all but itself by PLAIN", x.seen(0, w), (1 << n) - 1 - (1 << w));
                Due.is("itself too by SELF", x.seen(1, w), (1 << n) - 1);
            }
        }
    }

    // "FAR up, and all that SELF tells from one of these, again and again"
    private static void seenAgainAndAgain() {
        // The longest ways there are: upwards, downwards, and round about.
        SeenWorlds up = net(8, "01 12 23 34 45 56 67");
        SeenWorlds down = net(8, "76 65 54 43 32 21 10");
        SeenWorlds round = net(8, "03 36 61 14 47 72 25 50");
        for (int w = 0; w < 8; w++) {
            Due.is("FAR upwards from " + w, up.seen(2, w), 256 - (1 << w));
            Due.is("FAR downwards from " + w, down.seen(2, w), (2 << w) - 1);
            Due.is("FAR round from " + w, round.seen(2, w), 255);
            Due.is("SELF takes one step from " + w, up.seen(1, w), w == 7 ? 128 : 3 << w);
            for (SeenWorlds x : new SeenWorlds[] {up, down, round}) Due.is("BOTH from " + w, x.seen(3, w), 255);
        }
        up.see(3, 4, 0);
        Due.is("FAR to the gap", up.seen(2, 0), 15);
        Due.is("FAR from behind the gap", up.seen(2, 4), 240);
        Due.is("BOTH to the gap", up.seen(3, 3), 15);
        Due.is("BOTH from behind the gap", up.seen(3, 4), 240);
    }

    // "BOTH up, and all that FAR tells from one of these, or from which FAR tells one of these, again and again"
    private static void seenBothWays() {
        SeenWorlds x = net(8, "01 21 23 43 45 65 67");
        int[] far = {3, 2, 14, 8, 56, 32, 224, 128};
        for (int w = 0; w < 8; w++) {
            Due.is("FAR in a zigzag from " + w, x.seen(2, w), far[w]);
            Due.is("BOTH in a zigzag from " + w, x.seen(3, w), 255);
        }
        x = net(8, "02 24 46 17 75 53");
        for (int w = 0; w < 8; w++) Due.is("BOTH, two heaps, from " + w, x.seen(3, w), w % 2 == 0 ? 85 : 170);
        x = net(3, "02 12");
        Due.is("BOTH back from where both lead", x.seen(3, 0), 7);
        Due.is("FAR does not go back", x.seen(2, 2), 4);
    }

    private static void seenRefused() {
        Whole busy = new Whole("busy", EdgesNetTest::busy);
        for (int sort : new int[] {Integer.MIN_VALUE, -1, 4, 5, Integer.MAX_VALUE}) {
            for (int w : new int[] {0, 4, 5, -1}) busy.keeps("seen(" + sort + ", " + w + ")", x -> x.seen(sort, w), -1);
        }
        for (int w : new int[] {Integer.MIN_VALUE, -1, 5, 6, 7, 8, 32, Integer.MAX_VALUE}) {
            for (int s = 0; s < 4; s++) {
                int sort = s;
                busy.keeps("seen(" + sort + ", " + w + ")", x -> x.seen(sort, w), -1);
            }
        }
        // What is not refused comes to THE TRACE.
        busy.changes("seen(3, 4)", x -> x.seen(3, 4), 31);
        busy.changes("seen(0, 0)", x -> x.seen(0, 0), 3);
    }

    private static void sortsOfNoneAndAll() {
        for (int n = 1; n <= 8; n++) {
            Due.is("sorts of none of " + n, net(n, "").sorts(), 2 + 4 + 16 + 32);
            Due.is("sorts of all of " + n, full(n).sorts(), n == 1 ? 63 : 31);
            Due.is("sorts of each itself of " + n, net(n, itself(n)).sorts(), 63);
        }
    }

    /** A net of a SORT, and the same net with one pair less or more: the bit of that SORT goes. */
    private static void short1(int n, String pairs, int a, int b, int is, int with, int without) {
        SeenWorlds x = net(n, pairs);
        Due.is("sorts of " + pairs, x.sorts(), with);
        x.see(a, b, is);
        Due.is("sorts of " + pairs + ", " + a + b + " to " + is, x.sorts(), without);
    }

    private static void sortsOneShort() {
        // 0 each SEES itself; 3 each SEES some: the first one, the last one.
        short1(8, itself(8), 7, 7, 0, 63, 63 - 1 - 8);
        short1(8, itself(8), 0, 0, 0, 63, 63 - 1 - 8);
        // 5 each SEES one at most.
        short1(8, itself(8), 7, 0, 1, 63, 63 - 2 - 16 - 32);
        short1(2, "", 0, 1, 1, 54, 4 + 32);
        // 1 whom one SEES, SEES it.
        short1(2, "01 10", 1, 0, 0, 2 + 8 + 32, 4 + 32);
        short1(8, "01 10 67 76", 7, 6, 0, 2 + 32, 32);
        // 2 whom those SEE that it SEES, it SEES.
        short1(3, "01 12 02", 0, 2, 0, 4, 32);
        short1(4, "01 12 02 23 13 03", 0, 3, 0, 4, 0);
        // Itself too: it SEES one that SEES it.
        short1(2, "01 10 00 11", 1, 1, 0, 31, 2 + 8);
        short1(2, "00 01 11", 1, 0, 1, 1 + 4 + 8, 31);
        // 4 whom it SEES all SEE one another (and themselves).
        short1(3, "01 02 11 12 21 22", 1, 2, 0, 4 + 8 + 16, 4 + 8);
        short1(3, "01 02 11 12 21 22", 2, 2, 0, 4 + 8 + 16, 8);
        short1(2, "01 11", 1, 1, 0, 4 + 8 + 16 + 32, 4 + 32);
        // 3 alone goes: the one seen sees none.
        short1(3, "01 12 22", 2, 2, 0, 8 + 32, 32);
    }

    private static void sortsOfOne() {
        SeenWorlds x = net(1, "");
        Due.is("one that sees none", x.sorts(), 54);
        x.see(0, 0, 1);
        Due.is("one that sees itself", x.sorts(), 63);
        // What is told changes what THE NET is of.
        x = net(2, "00 01");
        Due.is("before", x.sorts(), 4);
        x.atom(0, 1);
        Due.read(x, 0, "p");
        x.tell(0);
        Due.is("told", x.sorts(), 63);
    }

    // "0 WORLDS, 1 how many pairs SEE, 2 bytes of THE TEXT, 3 .. 6 where ATOMS 0 .. 3 are true"
    private static void countAtLeastAndMost() {
        SeenWorlds x = full(8);
        int[] least = {1, 0, 0, 0, 0, 0, 0};
        int[] most = {8, 64, 200, 255, 255, 255, 255};
        for (int a = 0; a < 4; a++) x.atom(a, 255);
        Due.type(x, Due.times("p", 200));
        for (int what = 0; what < 7; what++) Due.is("most, count(" + what + ")", x.count(what), most[what]);
        x.worlds(1);
        x.clear();
        for (int what = 0; what < 7; what++) Due.is("least, count(" + what + ")", x.count(what), least[what]);
        for (int n = 1; n <= 8; n++) Due.is("pairs of all of " + n, full(n).count(1), n * n);
    }

    private static void countRefused() {
        Whole busy = new Whole("busy", EdgesNetTest::busy);
        for (int what : new int[] {Integer.MIN_VALUE, -1, 7, 8, 16, Integer.MAX_VALUE}) {
            busy.keeps("count(" + what + ")", x -> x.count(what), -1);
        }
        int[] want = {5, 7, 3, 3, 9, 15, 21};
        for (int k = 0; k < 7; k++) {
            int what = k;
            busy.keeps("count(" + k + ")", x -> x.count(what), want[k]);
        }
    }

    // "numbers in brackets come to THE TRACE as often as seen() asks that body"
    private static void traceOfEachSort() {
        long[] comes = {1, 11, 111, 1111};
        for (int n = 1; n <= 8; n++) {
            for (SeenWorlds x : new SeenWorlds[] {net(n, ""), full(n), net(n, itself(n))}) {
                long trace = 0;
                // What others SEE is found without it, so all nets come to the same.
                for (int sort = 0; sort < 4; sort++) {
                    for (int w = 0; w < n; w++) {
                        x.seen(sort, w);
                        trace += comes[sort];
                        Due.is("trace after seen(" + sort + ", " + w + ")", x.trace(), trace);
                    }
                }
            }
        }
    }

    private static void traceOfSeenAlone() {
        SeenWorlds x = busy();
        Due.is("trace of seen(3, 4)", x.trace(), 1111);
        for (int sort = -1; sort < 5; sort++) {
            x.holds(1, sort);
            x.sure(1, sort);
            x.heaps(sort);
            x.alike(0, 1, sort);
            x.apart(0, 1, sort);
            x.seen(sort, 5);
            x.seen(sort, -1);
        }
        x.seen(-1, 0);
        x.seen(4, 0);
        x.sorts();
        x.growing();
        x.grows(0);
        x.known(1);
        x.steps(1, 0);
        for (int what = 0; what < 7; what++) x.logic(1, 4, what);
        x.falls(1, 4, 0);
        x.follows(1, 3, 4);
        x.shown(2, 0);
        x.read(0);
        x.clear();
        x.tell(0);
        x.worlds(8);
        Due.is("trace: nothing else comes to it or takes from it", x.trace(), 1111);
        Due.is("trace again", x.trace(), 1111);
    }

    private static void traceOfManyCalls() {
        SeenWorlds x = new SeenWorlds();
        for (int call = 0; call < 511; call++) x.seen(3, call % 3);
        Due.is("trace as the 512th call", x.trace(), 511L * 1111);
    }
}
