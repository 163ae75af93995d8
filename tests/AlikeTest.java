/** Promises 16 to 18: heaps of WORLDS that are ALIKE, and the DEPTH by which they are told apart. */
public final class AlikeTest {
    public static void main(String[] args) {
        none();
        atomsTell();
        depthTells();
        loopsAndChains();
        bySorts();
        wrongOnes();
        Due.end();
    }

    private static void none() {
        SeenWorlds x = new SeenWorlds();
        for (int n = 1; n <= 8; n++) {
            x.worlds(n);
            for (int sort = 0; sort < 4; sort++) Due.is("heaps of none seen", x.heaps(sort), 1);
            Due.is("alike", x.alike(0, n - 1, 0), 1);
            Due.is("apart", x.apart(0, n - 1, 0), -9);
        }
    }

    private static void atomsTell() {
        for (int a = 0; a < 4; a++) {
            SeenWorlds x = new SeenWorlds();
            x.atom(a, 2);
            for (int sort = 0; sort < 4; sort++) {
                Due.is("heaps by atom " + a, x.heaps(sort), 2);
                Due.is("alike(0, 1)", x.alike(0, 1, sort), 0);
                Due.is("alike(0, 2)", x.alike(0, 2, sort), 1);
                Due.is("alike(1, 1)", x.alike(1, 1, sort), 1);
                Due.is("apart(0, 1)", x.apart(0, 1, sort), 0);
                Due.is("apart(2, 1)", x.apart(2, 1, sort), 0);
                Due.is("apart(0, 2)", x.apart(0, 2, sort), -9);
                Due.is("apart(1, 1)", x.apart(1, 1, sort), -9);
            }
        }
    }

    private static void depthTells() {
        // 0 > 1 > .. > 7: how many steps are left tells them apart.
        SeenWorlds x = new SeenWorlds();
        x.worlds(8);
        Due.see(x, "01 12 23 34 45 56 67");
        Due.is("heaps of a chain", x.heaps(0), 8);
        for (int a = 0; a < 8; a++) {
            for (int b = 0; b < 8; b++) {
                Due.is("apart(" + a + ", " + b + ")", x.apart(a, b, 0), a == b ? -9 : 8 - Math.max(a, b));
                Due.is("alike(" + a + ", " + b + ")", x.alike(a, b, 0), a == b ? 1 : 0);
            }
        }
        for (int sort = 1; sort < 4; sort++) Due.is("heaps by " + sort, x.heaps(sort), 1);
        x.atom(0, 128);
        Due.is("heaps by itself", x.heaps(1), 8);
        Due.is("apart by itself", x.apart(0, 1, 1), 6);
        Due.is("heaps by far", x.heaps(2), 2);
        Due.is("apart by far", x.apart(0, 7, 2), 0);
        Due.is("alike by far", x.alike(0, 6, 2), 1);
        Due.is("heaps by both", x.heaps(3), 2);
    }

    private static void loopsAndChains() {
        SeenWorlds x = new SeenWorlds();
        x.worlds(6);
        // A loop of one, a loop of two and a loop of three are alike.
        Due.see(x, "00 12 21 34 45 53");
        Due.is("heaps of loops", x.heaps(0), 1);
        Due.is("alike loops", x.alike(0, 4, 0), 1);
        x.atom(1, 2);
        Due.is("heaps, q at 1", x.heaps(0), 3);
        Due.is("apart(0, 2)", x.apart(0, 2, 0), 1);
        Due.is("apart(0, 3)", x.apart(0, 3, 0), -9);
        // Seeing the same one way, more the other way.
        x.worlds(6);
        Due.see(x, "02 03 12 24");
        Due.is("apart, both ways", x.apart(0, 1, 0), 2);
        Due.is("apart, the other way", x.apart(1, 0, 0), 2);
        Due.is("apart(2, 3)", x.apart(2, 3, 0), 1);
        Due.is("heaps, both ways", x.heaps(0), 4);
    }

    private static void bySorts() {
        SeenWorlds x = new SeenWorlds();
        x.worlds(4);
        Due.see(x, "01 12 32");
        x.atom(2, 4);
        int[] heaps = {3, 3, 2, 2};
        int[] apart = {1, 1, -9, -9};
        for (int sort = 0; sort < 4; sort++) {
            Due.is("heaps(" + sort + ")", x.heaps(sort), heaps[sort]);
            Due.is("apart(0, 1, " + sort + ")", x.apart(0, 1, sort), apart[sort]);
            Due.is("alike(1, 3, " + sort + ")", x.alike(1, 3, sort), 1);
        }
    }

    private static void wrongOnes() {
        SeenWorlds x = new SeenWorlds();
        Due.is("heaps(4)", x.heaps(4), -1);
        Due.is("heaps(-1)", x.heaps(-1), -1);
        int[][] wrong = {{3, 0, 0}, {-1, 0, 0}, {0, 3, 0}, {0, -1, 0}, {0, 0, 4}, {0, 0, -1}};
        for (int[] w : wrong) {
            Due.is("alike, wrong", x.alike(w[0], w[1], w[2]), -1);
            Due.is("apart, wrong", x.apart(w[0], w[1], w[2]), -1);
        }
    }
}
