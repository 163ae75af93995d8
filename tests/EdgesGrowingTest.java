/** Promises 19 to 21 at their edges: a method for each sentence of the document that names one. */
public final class EdgesGrowingTest {
    public static void main(String[] args) {
        growingWhereNoneIsLost();
        growingByFar();
        growsAtoms();
        growsIfAndNot();
        growsAtItselfToo();
        growsFarAway();
        growsRefused();
        shownTenBitsAtMost();
        shownBitsOnce();
        shownByFewAndMany();
        trueWhateverItsAtomsAre();
        shownRefused();
        Due.end();
    }

    private static SeenWorlds net(int n, String pairs) {
        SeenWorlds x = new SeenWorlds();
        x.worlds(n);
        Due.see(x, pairs);
        return x;
    }

    // "GROWING: all that hold true at a WORLD are true at all that it SEES by FAR."
    private static void growingWhereNoneIsLost() {
        for (int n = 1; n <= 8; n++) {
            SeenWorlds x = net(n, "");
            for (int a = 0; a < 4; a++) x.atom(a, 1 << a % n);
            Due.is("none seen", x.growing(), 1);
            for (int w = 0; w < n; w++) x.see(w, w, 1);
            Due.is("each itself alone", x.growing(), 1);
            for (int a = 0; a < n; a++) for (int b = 0; b < n; b++) x.see(a, b, 1);
            Due.is("all see all", x.growing(), n == 1 ? 1 : 0);
            for (int a = 0; a < 4; a++) x.atom(a, a % 2 == 0 ? 0 : (1 << n) - 1);
            Due.is("everywhere or nowhere", x.growing(), 1);
            if (n == 1) continue;
            for (int a = 0; a < 4; a++) {
                for (int w = 0; w < n; w++) {
                    int was = x.atom(a, 1 << w);
                    Due.is("atom " + a + " at " + w + " alone", x.growing(), 0);
                    x.atom(a, (1 << n) - 1 - (1 << w));
                    Due.is("atom " + a + " everywhere but at " + w, x.growing(), 0);
                    x.atom(a, was);
                }
            }
            Due.is("as before", x.growing(), 1);
        }
    }

    private static void growingByFar() {
        SeenWorlds x = net(8, "01 12 23 34 45 56 67");
        for (int a = 0; a < 4; a++) {
            for (int from = 0; from <= 8; from++) {
                x.atom(a, 256 - (1 << from));
                Due.is("atom " + a + " from " + from + " on", x.growing(), 1);
            }
            for (int w = 0; w < 7; w++) {
                x.atom(a, 1 << w);
                Due.is("atom " + a + " lost behind " + w, x.growing(), 0);
                x.atom(a, 128 | 1 << w);
                Due.is("atom " + a + " lost and back", x.growing(), w == 6 ? 1 : 0);
                x.atom(a, 255 - 128);
                Due.is("atom " + a + " lost at the last", x.growing(), 0);
            }
            x.atom(a, 0);
        }
        // Nothing is lost on a way that no one goes.
        x.atom(0, 8);
        Due.is("lost", x.growing(), 0);
        x.see(3, 4, 0);
        Due.is("the way is gone", x.growing(), 1);
        x.see(3, 3, 1);
        Due.is("itself", x.growing(), 1);
    }

    private static void grows(SeenWorlds x, String text, int want) {
        if (Due.read(x, 5, text) < 0) Due.is("read of " + text, -1, 0);
        Due.is(text + " grows of " + x.count(0), x.grows(5), want);
    }

    // "ATOMS, T, F, & and | as told"
    private static void growsAtoms() {
        for (int n = 1; n <= 8; n++) {
            SeenWorlds x = net(n, "");
            int all = (1 << n) - 1;
            for (int w = 0; w + 1 < n; w++) x.see(w, w + 1, 1);
            for (int from = 0; from <= n; from++) {
                int where = all - ((1 << from) - 1);
                x.atom(0, where);
                x.atom(3, all);
                grows(x, "p", where);
                grows(x, "s", all);
                grows(x, "T", all);
                grows(x, "F", 0);
                grows(x, "(p&s)", where);
                grows(x, "(p|F)", where);
                grows(x, "(p&F)", 0);
                grows(x, "(p|q)", where);
                // From a WORLD before there p comes, not not p, but not p.
                grows(x, "!p", where == 0 ? all : 0);
                grows(x, "!!p", where == 0 ? 0 : all);
                grows(x, "(p|!p)", where == 0 ? all : where);
                grows(x, "(!!p>p)", where == 0 ? all : where);
            }
        }
    }

    // "> at a WORLD: at all SEEN from there at which the first holds the second does; ! x: at none SEEN from there x holds."
    private static void growsIfAndNot() {
        // 0 sees 1 and 2; p at 1, q at 2: only then neither comes.
        SeenWorlds x = net(4, "01 02");
        x.atom(0, 2);
        x.atom(1, 4);
        grows(x, "(p>q)", 4 + 8);
        grows(x, "(q>p)", 2 + 8);
        grows(x, "!p", 4 + 8);
        grows(x, "!q", 2 + 8);
        grows(x, "(!p|!q)", 2 + 4 + 8);
        grows(x, "!(p|q)", 8);
        grows(x, "!(p&q)", 15);
        grows(x, "!!(p|q)", 1 + 2 + 4);
        grows(x, "((p>q)|(q>p))", 2 + 4 + 8);
        grows(x, "(T>p)", 2);
        grows(x, "(F>p)", 15);
        grows(x, "(p>F)", 4 + 8);
        grows(x, "!F", 15);
        grows(x, "!T", 0);
        // It holds by PLAIN as always: at each WORLD alone.
        Due.is("!T holds", x.holds(5, 0), 0);
        Due.read(x, 5, "(p>q)");
        Due.is("p > q holds", x.holds(5, 0), 1 + 4 + 8);
    }

    /** FAR tells itself too, though it does not see itself. */
    private static void growsAtItselfToo() {
        for (int n = 1; n <= 8; n++) {
            SeenWorlds x = net(n, "");
            int all = (1 << n) - 1;
            int last = 1 << n - 1;
            x.atom(2, last);
            x.atom(1, last);
            grows(x, "!r", all - last);
            grows(x, "!!r", last);
            grows(x, "(r>q)", all);
            grows(x, "(r>F)", all - last);
            grows(x, "(q>p)", all - last);
            grows(x, "(r|!r)", all);
        }
    }

    private static void growsFarAway() {
        SeenWorlds x = net(8, "01 12 23 34 45 56 67");
        x.atom(0, 128);
        grows(x, "!p", 0);
        grows(x, "!!p", 255);
        grows(x, "(p>q)", 0);
        grows(x, "(!p|p)", 128);
        x.see(3, 4, 0);
        grows(x, "!p", 15);
        grows(x, "(p>q)", 15);
        grows(x, "(!p|!!p)", 255);
        // Round a loop all is as it is everywhere.
        x = net(8, "01 12 23 34 45 56 67 70");
        x.atom(3, 255);
        grows(x, "!s", 0);
        grows(x, "(s>r)", 0);
        grows(x, "(r>s)", 255);
        String long40 = "!!!((" + Due.times("!", 9) + "p&" + Due.times("!", 9) + "q)|((!!!r>!!!s)&(!T|!F)))";
        Due.is("40 SIGNS", Due.read(x, 5, long40), 40);
        Due.is("40 SIGNS grow", x.grows(5), 0);
    }

    private static SeenWorlds growingNet() {
        SeenWorlds x = Due.with("p", "[p", "((p>q)>!r)", "{T", "(" + Due.times("!", 9) + "q|p)", Due.times("!", 10) + "p");
        Due.see(x, "01 12 22");
        x.atom(0, 6);
        x.seen(1, 1);
        Due.type(x, "{[q");
        return x;
    }

    private static SeenWorlds losingNet() {
        SeenWorlds x = growingNet();
        x.atom(3, 1);
        return x;
    }

    // "BAD; STATE: it is not PLAIN, or THE NET is not GROWING."
    private static void growsRefused() {
        Whole growing = new Whole("growing", EdgesGrowingTest::growingNet);
        Whole losing = new Whole("losing", EdgesGrowingTest::losingNet);
        for (int out : new int[] {Integer.MIN_VALUE, -1, 6, 7, Integer.MAX_VALUE}) {
            growing.keeps("grows(" + out + ")", x -> x.grows(out), -1);
            losing.keeps("BAD before STATE, grows(" + out + ")", x -> x.grows(out), -1);
        }
        int[] want = {6, -2, 7, -2, 7, 7};
        for (int k = 0; k < 6; k++) {
            int i = k;
            growing.keeps("grows(" + i + ")", x -> x.grows(i), want[i]);
            losing.keeps("grows(" + i + ")", x -> x.grows(i), -2);
        }
        growing.keeps("growing()", x -> x.growing(), 1);
        losing.keeps("growing()", x -> x.growing(), 0);
        // Any ATOM that is lost, be it in the SENTENCE or not; T too.
        SeenWorlds x = Due.with("p");
        x.see(0, 1, 1);
        x.atom(2, 1);
        Due.is("an ATOM that it has not is lost", x.grows(0), -2);
        Due.is("T, an ATOM is lost", x.grows(1), -2);
        x.atom(2, 3);
        Due.is("it goes on", x.grows(0), 0);
        Due.is("T, it goes on", x.grows(1), 7);
    }

    private static void shown(String text, int growing, int isTrue) {
        SeenWorlds x = Due.with(text);
        Due.is(text + " shown growing", x.shown(0, 0), growing);
        Due.is(text + " true", x.shown(0, 1), isTrue);
    }

    // "BITS are its ATOMS and parts with > or ! (10 at most, else STATE)"
    private static void shownTenBitsAtMost() {
        for (int nots = 0; nots <= 20; nots++) {
            int even = nots % 2 == 0 ? 1 : 0;
            shown(Due.times("!", nots) + "p", nots <= 9 ? 0 : -2, 0);
            shown(Due.times("!", nots) + "T", nots <= 10 ? even : -2, even);
            shown(Due.times("!", nots) + "F", nots <= 10 ? 1 - even : -2, 1 - even);
        }
        for (int ifs = 1; ifs <= 12; ifs++) {
            // ( p > ( p > .. T: one ATOM and so many parts with >.
            shown(Due.times("(p>", ifs) + "T" + Due.times(")", ifs), ifs <= 9 ? 1 : -2, 1);
            shown(Due.times("(p>", ifs) + "p" + Due.times(")", ifs), ifs <= 9 ? 1 : -2, 1);
            shown(Due.times("(p>", ifs) + "q" + Due.times(")", ifs), ifs <= 8 ? 0 : -2, 0);
        }
        String four = "(p&(q&(r&s)))";
        for (int nots = 1; nots <= 8; nots++) {
            int even = nots % 2 == 0 ? 1 : 0;
            shown("(" + four + "|" + Due.times("!", nots) + "T)", nots <= 6 ? even : -2, even);
            shown("(" + four + "|" + Due.times("!", nots) + "F)", nots <= 6 ? 1 - even : -2, 1 - even);
            // The > of all is one of the parts.
            shown("(" + four + ">" + Due.times("!", nots) + "F)", nots <= 5 ? 1 - even : -2, 1 - even);
        }
    }

    private static void shownBitsOnce() {
        String nine = Due.times("!", 9) + "p";
        shown("(" + nine + "|" + nine + ")", 0, 0);
        shown("(" + nine + "|!" + nine + ")", -2, 1);
        shown("(!" + nine + "|!" + nine + ")", -2, 0);
        // & and | have no BITS.
        shown("((p&q)|((p|q)&((p|r)|((q&r)|((r&s)&(s|p))))))", 0, 0);
        String both = "((p&q)|((p|r)&((q&r)|(s|(p&s)))))";
        shown("(" + both + ">" + both + ")", 1, 1);
        shown("(" + Due.times("!", 5) + "T&" + Due.times("!", 10) + "T)", 0, 0);
        shown("(" + Due.times("!", 10) + "T|" + Due.times("!", 10) + "T)", 1, 1);
        shown("(" + Due.times("!", 5) + "T|" + Due.times("!", 6) + "F)", -2, 0);
        shown("(" + Due.times("!", 5) + "T|" + Due.times("!", 5) + "F)", 1, 1);
        // p > q and q > p are unlike.
        shown("(((p>q)&(q>p))>((p>q)&(q>p)))", 1, 1);
    }

    // "SHOWN GROWING: it does so at all WORLDS of any GROWING NET."
    private static void shownByFewAndMany() {
        shown("T", 1, 1);
        shown("F", 0, 0);
        shown("p", 0, 0);
        shown("!p", 0, 0);
        shown("(p>p)", 1, 1);
        // Enough where not not is: with not before it all.
        shown("!!(p|!p)", 1, 1);
        shown("!!(!!p>p)", 1, 1);
        shown("!!(((p>q)>p)>p)", 1, 1);
        shown("(p|!p)", 0, 1);
        shown("(!!p>p)", 0, 1);
        shown("(((p>q)>p)>p)", 0, 1);
        shown("(!p|!!p)", 0, 1);
        shown("((p>q)|(q>p))", 0, 1);
        shown("((p>q)>(!p|q))", 0, 1);
        shown("((!p|q)>(p>q))", 1, 1);
        shown("(!!!p>!p)", 1, 1);
        shown("(!p>!!!p)", 1, 1);
        shown("(!!(p&q)>(!!p&!!q))", 1, 1);
        shown("((!!p&!!q)>!!(p&q))", 1, 1);
        shown("(!!(p>q)>(p>!!q))", 1, 1);
        shown("(!(p>q)>(!!p&!q))", 1, 1);
        shown("((p>!p)>!p)", 1, 1);
        shown("((p&!p)>q)", 1, 1);
        shown("((p|q)>((p>q)>q))", 1, 1);
        shown("(((p>q)>q)>(p|q))", 0, 1);
        shown("((p>(q|r))>((p>q)|(p>r)))", 0, 1);
        shown("(((p>r)&(q>r))>((p|q)>r))", 1, 1);
    }

    // "TRUE: it holds whatever its ATOMS are (PLAIN ones)."
    private static void trueWhateverItsAtomsAre() {
        String[] literal = {"p", "q", "r", "s"};
        // Of 16 choices just one makes it fail.
        for (int choice = 0; choice < 16; choice++) {
            StringBuilder text = new StringBuilder();
            for (int a = 0; a < 4; a++) text.append(a < 3 ? "(" : "").append((choice >> a & 1) == 1 ? "!" : "").append(literal[a]).append(a < 3 ? "|" : "");
            SeenWorlds x = Due.with(text + ")))", "(" + text + ")))|T)", "((" + text + ")))|p)|!p)");
            Due.is("true but by one", x.shown(0, 1), 0);
            Due.is("or T", x.shown(1, 1), 1);
            Due.is("or p or not p", x.shown(2, 1), 1);
        }
        // TRUE knows no BITS that are too many.
        String long40 = "!!!((" + Due.times("!", 9) + "p&" + Due.times("!", 9) + "q)|((!!!r>!!!s)&(!T|!F)))";
        shown(long40, -2, 0);
        shown("(" + Due.times("!", 18) + "p|" + Due.times("!", 17) + "p)", -2, 1);
        // THE NET has no say in it.
        SeenWorlds x = Due.with("(p|!p)", "p");
        x.worlds(1);
        x.atom(0, 1);
        Due.is("p|!p", x.shown(0, 0), 0);
        Due.is("p|!p true", x.shown(0, 1), 1);
        Due.is("p", x.shown(1, 0), 0);
        Due.is("p true", x.shown(1, 1), 0);
    }

    // "BAD; STATE: it is not PLAIN, or too many BITS (of 0)."
    private static void shownRefused() {
        Whole growing = new Whole("growing", EdgesGrowingTest::growingNet);
        Whole losing = new Whole("losing", EdgesGrowingTest::losingNet);
        for (Whole whole : new Whole[] {growing, losing}) {
            for (int out : new int[] {Integer.MIN_VALUE, -1, 6, 7, Integer.MAX_VALUE}) {
                for (int what = -1; what <= 2; what++) {
                    int asked = what;
                    whole.keeps("shown(" + out + ", " + what + ")", x -> x.shown(out, asked), -1);
                }
            }
            for (int out : new int[] {Integer.MIN_VALUE, -1, 2, 3, Integer.MAX_VALUE}) {
                for (int k = 0; k < 6; k++) {
                    int i = k;
                    whole.keeps("BAD before STATE, shown(" + i + ", " + out + ")", x -> x.shown(i, out), -1);
                }
            }
            int[][] want = {{0, 0}, {-2, -2}, {0, 0}, {-2, -2}, {-2, 0}, {-2, 0}};
            for (int k = 0; k < 6; k++) {
                for (int what = 0; what < 2; what++) {
                    int i = k;
                    int asked = what;
                    whole.keeps("shown(" + i + ", " + what + ")", x -> x.shown(i, asked), want[i][what]);
                }
            }
        }
        // What is not PLAIN is refused, be it true or not.
        for (String text : new String[] {"[T", "([p|!p)", "(T|{F)", "([p>[p)", "{F"}) shown(text, -2, -2);
    }
}
