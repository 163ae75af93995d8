/** Promises 11 and 12 at their edges: a method for each sentence of the document that names one. */
public final class EdgesHoldsTest {
    public static void main(String[] args) {
        everywhereAndNowhere();
        atomsWhereTheyAreTrue();
        asAlways();
        mustAndMayOfNone();
        mustAndMayOfAllButOne();
        manySteps();
        longOnes();
        bySorts();
        holdsRefused();
        sureTwelveAtMost();
        sureByEachChoice();
        sureByFirstAndLast();
        sureBySort();
        sureRefused();
        Due.end();
    }

    private static SeenWorlds net(int n, String pairs, String... texts) {
        SeenWorlds x = Due.with(texts);
        x.worlds(n);
        Due.see(x, pairs);
        return x;
    }

    private static void holds(SeenWorlds x, String text, int sort, int want) {
        if (Due.read(x, 5, text) < 0) Due.is("read of " + text, -1, 0);
        Due.is(text + " by " + sort + " of " + x.count(0), x.holds(5, sort), want);
    }

    // "T everywhere, F nowhere"
    private static void everywhereAndNowhere() {
        for (int n = 1; n <= 8; n++) {
            SeenWorlds x = net(n, "", "T", "F", "!T", "!F");
            int all = (1 << n) - 1;
            for (int sort = 0; sort < 4; sort++) {
                Due.is("T of " + n, x.holds(0, sort), all);
                Due.is("F of " + n, x.holds(1, sort), 0);
                Due.is("!T of " + n, x.holds(2, sort), 0);
                Due.is("!F of " + n, x.holds(3, sort), all);
            }
        }
    }

    // "ATOMS where they are true"
    private static void atomsWhereTheyAreTrue() {
        SeenWorlds x = net(8, "", "p", "q", "r", "s", "!s");
        for (int where : new int[] {0, 1, 128, 127, 254, 255}) {
            for (int a = 0; a < 4; a++) {
                x.atom(a, where);
                for (int b = 0; b < 4; b++) Due.is("atom " + b, x.holds(b, a), b == a ? where : 0);
                if (a == 3) Due.is("!s", x.holds(4, 0), 255 - where);
                x.atom(a, 0);
            }
        }
    }

    // "! & | > as always"
    private static void asAlways() {
        // p is the first bit of a WORLD's number, q the second.
        SeenWorlds x = net(4, "00 01 12 33");
        x.atom(0, 2 + 8);
        x.atom(1, 4 + 8);
        for (int sort = 0; sort < 4; sort++) {
            holds(x, "!p", sort, 1 + 4);
            holds(x, "!!p", sort, 2 + 8);
            holds(x, "(p&q)", sort, 8);
            holds(x, "(p|q)", sort, 2 + 4 + 8);
            holds(x, "(p>q)", sort, 1 + 4 + 8);
            holds(x, "(q>p)", sort, 1 + 2 + 8);
            holds(x, "(F>p)", sort, 15);
            holds(x, "(p>F)", sort, 1 + 4);
            holds(x, "(T>p)", sort, 2 + 8);
            holds(x, "(p|!p)", sort, 15);
            holds(x, "(p&!p)", sort, 0);
        }
    }

    // "must: at all WORLDS SEEN from there it HOLDS; may: at some."
    private static void mustAndMayOfNone() {
        for (int n = 1; n <= 8; n++) {
            SeenWorlds x = net(n, "", "[F", "{T", "[p", "{p");
            int all = (1 << n) - 1;
            Due.is("must of none seen", x.holds(0, 0), all);
            Due.is("may of none seen", x.holds(1, 0), 0);
            for (int sort = 1; sort < 4; sort++) {
                Due.is("[F, itself seen", x.holds(0, sort), 0);
                Due.is("{T, itself seen", x.holds(1, sort), all);
                for (int w = 0; w < n; w++) {
                    x.atom(0, 1 << w);
                    Due.is("[p, itself alone seen", x.holds(2, sort), 1 << w);
                    Due.is("{p, itself alone seen", x.holds(3, sort), 1 << w);
                }
            }
        }
    }

    private static void mustAndMayOfAllButOne() {
        for (int n = 1; n <= 8; n++) {
            SeenWorlds x = net(n, "", "[p", "{p", "![p", "!{p");
            int all = (1 << n) - 1;
            int from = n - 1;
            for (int w = 0; w < n; w++) x.see(from, w, 1);
            int others = all - (1 << from);
            x.atom(0, all);
            Due.is("[p, p everywhere", x.holds(0, 0), all);
            Due.is("{p, p everywhere", x.holds(1, 0), 1 << from);
            x.atom(0, 0);
            Due.is("[p, p nowhere", x.holds(0, 0), others);
            Due.is("{p, p nowhere", x.holds(1, 0), 0);
            for (int w = 0; w < n; w++) {
                x.atom(0, all - (1 << w));
                Due.is("[p, p everywhere but at " + w, x.holds(0, 0), others);
                Due.is("![p, p everywhere but at " + w, x.holds(2, 0), 1 << from);
                Due.is("{p, p everywhere but at " + w, x.holds(1, 0), n > 1 ? 1 << from : 0);
                x.atom(0, 1 << w);
                Due.is("{p, p at " + w, x.holds(1, 0), 1 << from);
                Due.is("!{p, p at " + w, x.holds(3, 0), others);
                Due.is("[p, p at " + w, x.holds(0, 0), n > 1 ? others : 1);
            }
        }
    }

    private static void manySteps() {
        SeenWorlds x = net(8, "01 12 23 34 45 56 67");
        for (int k = 0; k <= 20; k++) {
            // From w there are 7 - w steps and no more.
            int far = k > 7 ? 0 : (1 << 8 - k) - 1;
            holds(x, Due.times("{", k) + "T", 0, far);
            holds(x, Due.times("[", k) + "F", 0, 255 - far);
            holds(x, Due.times("[", k) + "F", 1, 0);
            holds(x, Due.times("{", k) + "T", 2, 255);
        }
        x.see(7, 0, 1);
        for (int k = 0; k <= 20; k++) {
            x.atom(0, 1);
            // Round and round: k steps before 0.
            holds(x, Due.times("[", k) + "p", 0, 1 << (8 - k % 8) % 8);
            holds(x, Due.times("{", k) + "p", 0, 1 << (8 - k % 8) % 8);
        }
    }

    /** All 40 SIGNS count, the last ones too. */
    private static void longOnes() {
        SeenWorlds x = net(8, "");
        x.atom(0, 255);
        for (String leaf : new String[] {"q", "T"}) {
            String text = "(!!p&" + Due.times("(p&", 16) + "!!!" + leaf + Due.times(")", 17);
            Due.is("40 SIGNS", Due.read(x, 0, text), 40);
            x.atom(1, 129);
            Due.is(text, x.holds(0, 0), leaf.equals("q") ? 255 - 129 : 0);
        }
        String unlike = "!!!((" + Due.times("!", 9) + "p&" + Due.times("[", 9) + "q)|((!!!r>{{{s)&(!T|!F)))";
        Due.is("40 unlike PARTS", Due.read(x, 0, unlike), 40);
        x.atom(2, 15);
        // p everywhere: the left one fails; r where !!!r does not hold: {{{s fails, so r is left.
        Due.is(unlike, x.holds(0, 0), 255 - 15);
    }

    // "HOLDS at a WORLD by a SORT"
    private static void bySorts() {
        SeenWorlds x = net(8, "01 21 23 43 45 65 67");
        x.atom(0, 1 << 7);
        int[] may = {64, 64 + 128, 64 + 128, 255};
        int[] mustNot = {255 - 64, 255 - 64 - 128, 255 - 64 - 128, 0};
        for (int sort = 0; sort < 4; sort++) {
            holds(x, "{p", sort, may[sort]);
            holds(x, "[!p", sort, mustNot[sort]);
            holds(x, "p", sort, 128);
        }
    }

    private static SeenWorlds busy() {
        SeenWorlds x = net(5, "00 01 12 24 43 31 44", "[p", "((p&q)|(r&s))", "(r>!s)", "{(p|[s)", "F");
        for (int a = 0; a < 4; a++) x.atom(a, 3 + 6 * a);
        x.seen(3, 4);
        Due.type(x, "{[q");
        return x;
    }

    private static void holdsRefused() {
        Whole busy = new Whole("busy", EdgesHoldsTest::busy);
        for (int out : new int[] {Integer.MIN_VALUE, -1, 6, 7, Integer.MAX_VALUE}) {
            for (int in = -1; in <= 4; in++) {
                int sort = in;
                busy.keeps("holds(" + out + ", " + in + ")", x -> x.holds(out, sort), -1);
            }
        }
        for (int out : new int[] {Integer.MIN_VALUE, -1, 4, 5, Integer.MAX_VALUE}) {
            for (int in = 0; in < 6; in++) {
                int i = in;
                busy.keeps("holds(" + in + ", " + out + ")", x -> x.holds(i, out), -1);
            }
        }
        busy.keeps("holds(5, 0)", x -> x.holds(5, 0), 31);
        busy.keeps("holds(4, 3)", x -> x.holds(4, 3), 0);
    }

    // "(Asked where WORLDS times its ATOMS are 12 at most; else STATE.)"
    private static void sureTwelveAtMost() {
        String[] laws = {"(T|F)", "(p|!p)", "((p&q)>q)", "((p&(q&r))>q)", "((p&(q&(r&s)))>s)"};
        String[] last = {"[T", "[(s|!s)", "[((r&s)>s)", "((q&(r&s))>s)", "((p&(q&(r&s)))>[T)"};
        for (int atoms = 0; atoms <= 4; atoms++) {
            SeenWorlds x = Due.with(laws[atoms], last[atoms], "!" + laws[atoms]);
            for (int n = 1; n <= 8; n++) {
                x.worlds(n);
                boolean asked = n * atoms <= 12;
                for (int sort = 0; sort < 4; sort++) {
                    Due.is(laws[atoms] + " of " + n, x.sure(0, sort), asked ? 1 : -2);
                    Due.is(last[atoms] + " of " + n, x.sure(1, sort), asked ? 1 : -2);
                    Due.is("not " + laws[atoms] + " of " + n, x.sure(2, sort), asked ? 0 : -2);
                }
            }
        }
        // ATOMS count once each, also where nothing hangs on them.
        SeenWorlds x = net(6, "", "((p&p)>(p|(p&p)))", "(F>(p&q))", "(F>(p&(q&r)))", "(T|([p&s))");
        Due.is("one atom often", x.sure(0, 0), 1);
        Due.is("two of six", x.sure(1, 0), 1);
        Due.is("three of six", x.sure(2, 0), -2);
        Due.is("two of six, deep", x.sure(3, 0), 1);
        x.worlds(7);
        Due.is("one of seven", x.sure(0, 0), 1);
        Due.is("two of seven", x.sure(1, 0), -2);
        Due.is("two of seven, deep", x.sure(3, 0), -2);
    }

    // "whatever WORLDS the ATOMS that stand in it are true at"
    private static void sureByEachChoice() {
        // Only one choice of all makes it fail, at one WORLD alone: the first of a chain.
        for (int choice = 0; choice < 16; choice++) {
            String first = literals(choice & 1, choice >> 1 & 1, "p", "q");
            String second = literals(choice >> 2 & 1, choice >> 3 & 1, "p", "q");
            notSure(2, "01", "(!{T|!(" + first + "&[" + second + "))");
            notSure(2, "01", "(!{T|!(" + first.replace('q', 's') + "&[" + second.replace('q', 's') + "))");
        }
        for (int choice = 0; choice < 64; choice++) {
            String first = literals(choice & 1, choice >> 1 & 1, "r", "s");
            String second = literals(choice >> 2 & 1, choice >> 3 & 1, "r", "s");
            String third = literals(choice >> 4 & 1, choice >> 5 & 1, "r", "s");
            notSure(3, "01 12", "(!{{T|!(" + first + "&[(" + second + "&[" + third + ")))");
        }
    }

    private static String literals(int a, int b, String first, String second) {
        return "(" + (a == 1 ? "" : "!") + first + "&" + (b == 1 ? "" : "!") + second + ")";
    }

    private static void notSure(int n, String pairs, String text) {
        SeenWorlds x = net(n, pairs, text, "(" + text + "|T)");
        Due.is("sure of " + text, x.sure(0, 0), 0);
        Due.is("sure of it or T", x.sure(1, 0), 1);
    }

    private static void sureByFirstAndLast() {
        String all = "(p&(q&(r&s)))";
        String any = "(p|(q|(r|s)))";
        notSure(3, "01 12", "(!{{T|!(" + all + "&[(" + all + "&[" + all + ")))");
        notSure(3, "01 12", "(!{{T|(" + any + "|{(" + any + "|{" + any + ")))");
        // Not at the first WORLD alone, nor at the last one alone.
        notSure(3, "10 21", "(!{{T|!(" + all + "&[(" + all + "&[" + all + ")))");
        notSure(3, "10 21", "(!{{T|(" + any + "|{(" + any + "|{" + any + ")))");
        notSure(8, "01 12 23 34 45 56 67", "(!" + Due.times("{", 7) + "T|!(p&[(p&[(p&[(p&[(p&[(p&[(p&[p))))))))");
        notSure(8, "01 12 23 34 45 56 67", "(!" + Due.times("{", 7) + "T|(p|{(p|{(p|{(p|{(p|{(p|{(p|{p))))))))");
        SeenWorlds x = net(1, "", "(p|(q|(r|!s)))", "(p|q)", "s", "(p|!p)");
        int[] want = {0, 0, 0, 1};
        for (int i = 0; i < 4; i++) Due.is("sure(" + i + ") of one", x.sure(i, 0), want[i]);
    }

    private static void sureBySort() {
        String[] texts = {"[F", "{T", "([p>p)", "([p>[[p)", "(p>[{p)", "({p>p)"};
        SeenWorlds x = net(3, "01 12", texts);
        int[][] want = {{0, 0, 0, 0}, {0, 1, 1, 1}, {0, 1, 1, 1}, {0, 0, 1, 1}, {0, 0, 0, 1}, {0, 0, 0, 0}};
        for (int i = 0; i < 6; i++) {
            for (int sort = 0; sort < 4; sort++) Due.is("sure of " + texts[i] + " by " + sort, x.sure(i, sort), want[i][sort]);
        }
        x.worlds(6);
        int[][] none = {{1, 0, 0, 0}, {0, 1, 1, 1}, {0, 1, 1, 1}, {1, 1, 1, 1}, {1, 1, 1, 1}, {1, 1, 1, 1}};
        for (int i = 0; i < 6; i++) {
            for (int sort = 0; sort < 4; sort++) Due.is("none seen, sure of " + texts[i] + " by " + sort, x.sure(i, sort), none[i][sort]);
        }
    }

    private static void sureRefused() {
        Whole busy = new Whole("busy", EdgesHoldsTest::busy);
        // SENTENCE 1 has four ATOMS on five WORLDS: BAD comes before STATE.
        for (int out : new int[] {Integer.MIN_VALUE, -1, 6, 7, Integer.MAX_VALUE}) {
            for (int in = -1; in <= 4; in++) {
                int sort = in;
                busy.keeps("sure(" + out + ", " + in + ")", x -> x.sure(out, sort), -1);
            }
        }
        for (int out : new int[] {Integer.MIN_VALUE, -1, 4, 5, Integer.MAX_VALUE}) {
            for (int in = 0; in < 6; in++) {
                int i = in;
                busy.keeps("sure(" + in + ", " + out + ")", x -> x.sure(i, out), -1);
            }
        }
        int[] want = {0, -2, 0, 0, 0, 1};
        for (int in = 0; in < 6; in++) {
            for (int s = 0; s < 4; s++) {
                int i = in;
                int sort = s;
                busy.keeps("sure(" + in + ", " + s + ")", x -> x.sure(i, sort), want[in]);
            }
        }
    }
}
