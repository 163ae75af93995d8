/** Promises 1 to 6, 25 and 26: a new object, THE NET, what is counted, THE TRACE. */
public final class NetTest {
    public static void main(String[] args) {
        constants();
        newObject();
        worlds();
        see();
        atom();
        seen();
        sorts();
        count();
        trace();
        Due.end();
    }

    private static void constants() {
        Due.is("BAD", SeenWorlds.BAD, -1);
        Due.is("STATE", SeenWorlds.STATE, -2);
        Due.is("FULL", SeenWorlds.FULL, -3);
        Due.is("NONE", SeenWorlds.NONE, -9);
    }

    private static void newObject() {
        SeenWorlds x = new SeenWorlds();
        Due.is("new: worlds", x.count(0), 3);
        Due.is("new: pairs", x.count(1), 0);
        Due.is("new: text", x.count(2), 0);
        for (int a = 0; a < 4; a++) Due.is("new: atom " + a, x.count(3 + a), 0);
        for (int i = 0; i < 6; i++) {
            Due.is("new: signs of " + i, x.about(i, 0), 1);
            Due.is("new: depth of " + i, x.about(i, 1), 0);
            Due.is("new: parts of " + i, x.about(i, 2), 1);
            Due.is("new: atoms of " + i, x.about(i, 3), 0);
            Due.is("new: T holds, " + i, x.holds(i, 0), 7);
        }
        Due.is("new: trace", x.trace(), 0);
        Due.is("new: growing", x.growing(), 1);
        Due.is("new: sorts", x.sorts(), 2 + 4 + 16 + 32);
    }

    private static void worlds() {
        SeenWorlds x = Due.with("[p");
        Due.see(x, "01 22");
        x.atom(0, 7);
        x.seen(3, 0);
        Due.is("worlds(0)", x.worlds(0), -1);
        Due.is("worlds(9)", x.worlds(9), -1);
        Due.is("worlds(-1)", x.worlds(-1), -1);
        Due.is("worlds(min)", x.worlds(Integer.MIN_VALUE), -1);
        Due.is("worlds(max)", x.worlds(Integer.MAX_VALUE), -1);
        Due.is("pairs after BAD", x.count(1), 2);
        Due.is("p after BAD", x.count(3), 7);
        Due.type(x, "pq");
        Due.is("worlds(8)", x.worlds(8), 3);
        Due.is("pairs after worlds", x.count(1), 0);
        Due.is("p after worlds", x.count(3), 0);
        Due.is("sentence after worlds", x.about(0, 0), 2);
        Due.is("text after worlds", x.count(2), 2);
        Due.is("trace after worlds", x.trace(), 1111);
        Due.is("worlds(1)", x.worlds(1), 8);
        Due.is("worlds(3)", x.worlds(3), 1);
        Due.is("see(1, 2) not there before", x.see(1, 2, 0), 0);
    }

    private static void see() {
        SeenWorlds x = new SeenWorlds();
        Due.is("see(0, 1, 1)", x.see(0, 1, 1), 0);
        Due.is("see(0, 1, 1) again", x.see(0, 1, 1), 1);
        Due.is("see(1, 0, 0)", x.see(1, 0, 0), 0);
        Due.is("see(2, 2, 1)", x.see(2, 2, 1), 0);
        Due.is("pairs", x.count(1), 2);
        Due.is("see(0, 1, 0)", x.see(0, 1, 0), 1);
        Due.is("see(0, 1, 0) again", x.see(0, 1, 0), 0);
        Due.is("seen(0, 2)", x.seen(0, 2), 4);
        Due.is("see(3, 0, 1)", x.see(3, 0, 1), -1);
        Due.is("see(0, 3, 1)", x.see(0, 3, 1), -1);
        Due.is("see(-1, 0, 1)", x.see(-1, 0, 1), -1);
        Due.is("see(0, -1, 1)", x.see(0, -1, 1), -1);
        Due.is("see(0, 1, 2)", x.see(0, 1, 2), -1);
        Due.is("see(0, 1, -1)", x.see(0, 1, -1), -1);
        Due.is("pairs after BAD", x.count(1), 1);
        x.worlds(8);
        Due.is("see(7, 7, 1)", x.see(7, 7, 1), 0);
        Due.is("see(7, 0, 1)", x.see(7, 0, 1), 0);
        Due.is("seen(0, 7)", x.seen(0, 7), 129);
        Due.is("see(7, 7, 0)", x.see(7, 7, 0), 1);
        Due.is("seen(0, 7) then", x.seen(0, 7), 1);
    }

    private static void atom() {
        SeenWorlds x = new SeenWorlds();
        for (int a = 0; a < 4; a++) Due.is("atom " + a, x.atom(a, a + 1), 0);
        for (int a = 0; a < 4; a++) Due.is("atom again " + a, x.atom(a, 7 - a), a + 1);
        Due.is("atom(4, 0)", x.atom(4, 0), -1);
        Due.is("atom(-1, 0)", x.atom(-1, 0), -1);
        Due.is("atom(0, 8)", x.atom(0, 8), -1);
        Due.is("atom(0, -1)", x.atom(0, -1), -1);
        Due.is("p after BAD", x.count(3), 7);
        x.worlds(1);
        Due.is("atom(3, 2) of one world", x.atom(3, 2), -1);
        Due.is("atom(3, 1) of one world", x.atom(3, 1), 0);
        x.worlds(8);
        Due.is("atom(3, 255)", x.atom(3, 255), 0);
        Due.is("atom(3, 256)", x.atom(3, 256), -1);
        Due.is("s", x.count(6), 255);
    }

    private static void seen() {
        SeenWorlds x = new SeenWorlds();
        x.worlds(6);
        Due.see(x, "01 12 32 45");
        int[][] want = {
            {2, 4, 0, 4, 32, 0},
            {3, 6, 4, 12, 48, 32},
            {7, 6, 4, 12, 48, 32},
            {15, 15, 15, 15, 48, 48}};
        for (int sort = 0; sort < 4; sort++) {
            for (int w = 0; w < 6; w++) Due.is("seen(" + sort + ", " + w + ")", x.seen(sort, w), want[sort][w]);
        }
        Due.is("seen(4, 0)", x.seen(4, 0), -1);
        Due.is("seen(-1, 0)", x.seen(-1, 0), -1);
        Due.is("seen(0, 6)", x.seen(0, 6), -1);
        Due.is("seen(0, -1)", x.seen(0, -1), -1);
        x.worlds(8);
        Due.see(x, "01 12 23 34 45 56 67");
        Due.is("seen far through all", x.seen(2, 0), 255);
        Due.is("seen far from the last", x.seen(2, 7), 128);
        Due.is("seen both from the last", x.seen(3, 7), 255);
        x.see(3, 4, 0);
        x.see(4, 3, 1);
        Due.is("seen far, one turned", x.seen(2, 0), 15);
        Due.is("seen both, one turned", x.seen(3, 0), 255);
        Due.is("seen far from 4", x.seen(2, 4), 248);
    }

    private static void sorts() {
        Due.is("sorts of 00", kinds(1, "00"), 63);
        Due.is("sorts of none", kinds(1, ""), 2 + 4 + 16 + 32);
        Due.is("each itself", kinds(3, "00 11 22"), 63);
        Due.is("01 10", kinds(2, "01 10"), 2 + 8 + 32);
        Due.is("01 10 00 11", kinds(2, "01 10 00 11"), 1 + 2 + 4 + 8 + 16);
        Due.is("01 12 02", kinds(3, "01 12 02"), 4);
        Due.is("01 12 02 00 11 22", kinds(3, "01 12 02 00 11 22"), 1 + 4 + 8);
        Due.is("01 11", kinds(2, "01 11"), 4 + 8 + 16 + 32);
        Due.is("01 02", kinds(3, "01 02"), 4);
        Due.is("01 12 20", kinds(3, "01 12 20"), 8 + 32);
        Due.is("01 02 11 12 21 22", kinds(3, "01 02 11 12 21 22"), 4 + 8 + 16);
        Due.is("all of 8 themselves but 7", kinds(8, "00 11 22 33 44 55 66"), 2 + 4 + 16 + 32);
    }

    private static int kinds(int n, String pairs) {
        SeenWorlds x = new SeenWorlds();
        x.worlds(n);
        Due.see(x, pairs);
        return x.sorts();
    }

    private static void count() {
        SeenWorlds x = new SeenWorlds();
        x.worlds(5);
        Due.see(x, "00 01 10 44");
        for (int a = 0; a < 4; a++) x.atom(a, 10 + a);
        Due.type(x, "[[[");
        Due.is("count(0)", x.count(0), 5);
        Due.is("count(1)", x.count(1), 4);
        Due.is("count(2)", x.count(2), 3);
        for (int a = 0; a < 4; a++) Due.is("count(" + (3 + a) + ")", x.count(3 + a), 10 + a);
        Due.is("count(7)", x.count(7), -1);
        Due.is("count(-1)", x.count(-1), -1);
    }

    private static void trace() {
        long[] want = {1, 11, 111, 1111};
        for (int sort = 0; sort < 4; sort++) {
            SeenWorlds x = new SeenWorlds();
            Due.see(x, "01 12 20");
            x.seen(sort, 1);
            Due.is("trace of " + sort, x.trace(), want[sort]);
            x.seen(sort, 1);
            Due.is("trace of " + sort + " twice", x.trace(), 2 * want[sort]);
        }
        SeenWorlds x = Due.with("[p");
        x.seen(4, 0);
        x.seen(0, 3);
        x.seen(-1, 0);
        x.seen(0, -1);
        Due.is("trace after BAD", x.trace(), 0);
        x.holds(0, 3);
        x.sure(0, 3);
        x.heaps(3);
        x.alike(0, 1, 3);
        x.apart(0, 1, 3);
        x.growing();
        x.known(0);
        x.steps(0, 0);
        x.sorts();
        x.tell(0);
        Due.is("trace: seen alone counts", x.trace(), 0);
    }
}
