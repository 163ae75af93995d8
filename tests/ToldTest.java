/** Promises 22 to 24: what is TOLD to all, what ALL KNOW, and by how few steps it is not so. */
public final class ToldTest {
    public static void main(String[] args) {
        tell();
        tellAgain();
        tellRefused();
        known();
        steps();
        wrongOnes();
        Due.end();
    }

    private static void tell() {
        SeenWorlds x = Due.with("(p|q)");
        x.worlds(6);
        Due.see(x, "00 02 25 53 13 41 24 32");
        x.atom(0, 1 + 4 + 8);
        x.atom(1, 32);
        x.atom(2, 2 + 8 + 16);
        x.atom(3, 63);
        Due.type(x, "pq");
        x.seen(0, 0);
        // 0, 2, 3 and 5 stay, as 0, 1, 2 and 3.
        Due.is("tell", x.tell(0), 4);
        Due.is("worlds", x.count(0), 4);
        Due.is("p", x.count(3), 1 + 2 + 4);
        Due.is("q", x.count(4), 8);
        Due.is("r", x.count(5), 4);
        Due.is("s", x.count(6), 15);
        Due.is("seen from 0", x.seen(0, 0), 1 + 2);
        Due.is("seen from 1", x.seen(0, 1), 8);
        Due.is("seen from 2", x.seen(0, 2), 2);
        Due.is("seen from 3", x.seen(0, 3), 4);
        Due.is("seen from 4", x.seen(0, 4), -1);
        Due.is("pairs", x.count(1), 5);
        Due.is("text", x.count(2), 2);
        Due.is("trace", x.trace(), 5);
        Due.is("sentence", x.about(0, 0), 3);
        Due.is("told once more", x.tell(0), 4);
        Due.is("worlds(4)", x.worlds(4), 4);
        Due.is("none seen", x.count(1), 0);
    }

    private static void tellAgain() {
        // Each told takes the last one of a chain.
        SeenWorlds x = Due.with("{T");
        x.worlds(8);
        Due.see(x, "01 12 23 34 45 56 67");
        for (int left = 7; left >= 1; left--) Due.is("tell to " + left, x.tell(0), left);
        Due.is("none would stay", x.tell(0), -2);
        Due.is("one is left", x.count(0), 1);
        // What is told is judged by PLAIN, before any goes: p and I don't see p.
        x = Due.with("(p&![p)");
        Due.see(x, "01 12 20");
        x.atom(0, 3);
        Due.is("tell of what then is not so", x.tell(0), 1);
        Due.is("it sees none", x.count(1), 0);
        Due.is("now it is not so", x.tell(0), -2);
        Due.is("and nothing changed", x.count(3), 1);
    }

    private static void tellRefused() {
        SeenWorlds x = Due.with("p", "F");
        x.see(0, 1, 1);
        Due.is("tell(6)", x.tell(6), -1);
        Due.is("tell(-1)", x.tell(-1), -1);
        Due.is("tell of p nowhere", x.tell(0), -2);
        Due.is("tell of F", x.tell(1), -2);
        Due.is("worlds stay", x.count(0), 3);
        Due.is("pairs stay", x.count(1), 1);
    }

    private static void known() {
        SeenWorlds x = Due.with("p", "[p", "F", "T");
        x.worlds(6);
        Due.see(x, "01 12 23 40 55");
        x.atom(0, 4 + 8);
        Due.is("known p", x.known(0), 2 + 4 + 8);
        Due.is("known [p", x.known(1), 1 + 2 + 4 + 8);
        Due.is("known F", x.known(2), 8);
        Due.is("known T", x.known(3), 63);
        // Itself counts only if it can be come to.
        x.atom(0, 2 + 4 + 8);
        Due.is("known p but at itself", x.known(0), 1 + 2 + 4 + 8);
        x.see(3, 0, 1);
        Due.is("known p in a loop", x.known(0), 0);
        x.atom(0, 15 + 32);
        Due.is("known p all round", x.known(0), 63);
        Due.is("known(6)", x.known(6), -1);
        Due.is("known(-1)", x.known(-1), -1);
    }

    private static void steps() {
        SeenWorlds x = Due.with("p", "T", "F", "[p");
        x.worlds(8);
        Due.see(x, "01 12 23 34 45 56 67 04 11");
        x.atom(0, 127);
        int[] want = {4, 6, 5, 4, 3, 2, 1, 0};
        for (int w = 0; w < 8; w++) {
            Due.is("steps(0, " + w + ")", x.steps(0, w), want[w]);
            Due.is("steps of T from " + w, x.steps(1, w), -9);
            Due.is("steps of F from " + w, x.steps(2, w), 0);
        }
        Due.is("steps of [p", x.steps(3, 0), 3);
        Due.is("steps of [p from 7", x.steps(3, 7), -9);
        x.see(0, 4, 0);
        Due.is("seven steps", x.steps(0, 0), 7);
        x.see(3, 4, 0);
        Due.is("no steps lead there", x.steps(0, 0), -9);
    }

    private static void wrongOnes() {
        SeenWorlds x = new SeenWorlds();
        Due.is("steps(6, 0)", x.steps(6, 0), -1);
        Due.is("steps(-1, 0)", x.steps(-1, 0), -1);
        Due.is("steps(0, 3)", x.steps(0, 3), -1);
        Due.is("steps(0, -1)", x.steps(0, -1), -1);
    }
}
