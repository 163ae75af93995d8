/** Promises 19 to 21: GROWING nets, where a SENTENCE HOLDS in them, what is SHOWN of all of them. */
public final class GrowingTest {
    public static void main(String[] args) {
        growing();
        grows();
        growsRefused();
        shown();
        shownAtMost();
        Due.end();
    }

    private static void growing() {
        SeenWorlds x = new SeenWorlds();
        x.worlds(4);
        x.atom(0, 1);
        Due.is("none seen", x.growing(), 1);
        x.see(0, 0, 1);
        Due.is("itself", x.growing(), 1);
        x.see(0, 1, 1);
        Due.is("p is lost", x.growing(), 0);
        x.atom(0, 3);
        Due.is("p goes on", x.growing(), 1);
        Due.see(x, "12 23");
        Due.is("p is lost further", x.growing(), 0);
        x.atom(0, 12);
        Due.is("p comes", x.growing(), 1);
        x.see(3, 0, 1);
        Due.is("p is lost in a loop", x.growing(), 0);
        x.atom(0, 15);
        for (int a = 1; a < 4; a++) {
            x.atom(a, 2);
            Due.is("atom " + a + " is lost", x.growing(), 0);
            x.atom(a, 0);
            Due.is("atom " + a + " is none", x.growing(), 1);
        }
    }

    private static void grows(SeenWorlds x, String text, int want) {
        if (Due.read(x, 5, text) < 0) Due.is("read " + text, -1, 0);
        Due.is(text + " grows", x.grows(5), want);
    }

    private static void grows() {
        // 0 sees 1, that sees 2, and 0 sees 3; p at 2, q at 3, r at 1 and 2.
        SeenWorlds x = new SeenWorlds();
        x.worlds(4);
        Due.see(x, "01 12 03");
        x.atom(0, 4);
        x.atom(1, 8);
        x.atom(2, 6);
        grows(x, "T", 15);
        grows(x, "F", 0);
        grows(x, "p", 4);
        grows(x, "(p|q)", 12);
        grows(x, "(p&r)", 4);
        grows(x, "!p", 8);
        grows(x, "!!p", 6);
        grows(x, "(p|!p)", 12);
        grows(x, "!q", 6);
        grows(x, "(!!p>p)", 12);
        grows(x, "(p>r)", 15);
        grows(x, "(r>p)", 12);
        grows(x, "(r>!!p)", 15);
        grows(x, "!(p&q)", 15);
        grows(x, "(!p|!q)", 14);
        grows(x, "((p>q)|(q>p))", 14);
        grows(x, "((!p>q)>(!q|q))", 14);
        grows(x, "((p>F)>q)", 15);
        Due.is("it holds as always but where it is so there", x.holds(5, 0), 12);
    }

    private static void growsRefused() {
        SeenWorlds x = Due.with("[p", "p", "{T");
        Due.is("grows(6)", x.grows(6), -1);
        Due.is("grows(-1)", x.grows(-1), -1);
        Due.is("grows of [p", x.grows(0), -2);
        Due.is("grows of {T", x.grows(2), -2);
        Due.is("grows of p", x.grows(1), 0);
        x.see(0, 1, 1);
        x.atom(3, 1);
        Due.is("grows in a net that is not growing", x.grows(1), -2);
        Due.is("BAD before STATE", x.grows(6), -1);
    }

    /** SHOWN GROWING, and TRUE. */
    private static void shown(String text, int growing, int isTrue) {
        SeenWorlds x = Due.with(text);
        Due.is(text + " shown growing", x.shown(0, 0), growing);
        Due.is(text + " true", x.shown(0, 1), isTrue);
    }

    private static void shown() {
        shown("T", 1, 1);
        shown("F", 0, 0);
        shown("p", 0, 0);
        shown("!F", 1, 1);
        shown("!T", 0, 0);
        shown("(p>p)", 1, 1);
        shown("(p>q)", 0, 0);
        shown("(p|!p)", 0, 1);
        shown("!!(p|!p)", 1, 1);
        shown("(p>!!p)", 1, 1);
        shown("(!!p>p)", 0, 1);
        shown("(!!!p>!p)", 1, 1);
        shown("(((p>q)>p)>p)", 0, 1);
        shown("((p>q)|(q>p))", 0, 1);
        shown("(!p|!!p)", 0, 1);
        shown("(!(p&q)>(!p|!q))", 0, 1);
        shown("((!p|!q)>!(p&q))", 1, 1);
        shown("(!(p|q)>(!p&!q))", 1, 1);
        shown("((!p&!q)>!(p|q))", 1, 1);
        shown("((p>q)>(!q>!p))", 1, 1);
        shown("((!q>!p)>(p>q))", 0, 1);
        shown("((p>(q>r))>((p>q)>(p>r)))", 1, 1);
        shown("((p&(p>q))>q)", 1, 1);
        shown("((!p>(q|r))>((!p>q)|(!p>r)))", 0, 1);
        shown("((p|q)>(p&q))", 0, 0);
        shown("(s>(r>(q>s)))", 1, 1);
        shown("((!!p>p)>(p|!p))", 0, 1);
        shown("(((!!p>p)>(p|!p))>(!p|!!p))", 0, 1);
        shown("!(p&!p)", 1, 1);
        shown("(F>s)", 1, 1);
    }

    private static void shownAtMost() {
        SeenWorlds x = Due.with("[p", Due.times("!", 9) + "p", Due.times("!", 10) + "p", "(" + Due.times("!", 17) + "p|p)", "({p|!{p)");
        Due.is("shown(6, 0)", x.shown(6, 0), -1);
        Due.is("shown(-1, 0)", x.shown(-1, 0), -1);
        Due.is("shown(1, 2)", x.shown(1, 2), -1);
        Due.is("shown(1, -1)", x.shown(1, -1), -1);
        Due.is("shown(0, 2)", x.shown(0, 2), -1);
        Due.is("shown of [p", x.shown(0, 0), -2);
        Due.is("true of [p", x.shown(0, 1), -2);
        Due.is("true of a law that is not plain", x.shown(4, 1), -2);
        Due.is("shown, 10 bits", x.shown(1, 0), 0);
        Due.is("true, 10 bits", x.shown(1, 1), 0);
        Due.is("shown, 11 bits", x.shown(2, 0), -2);
        Due.is("true, 11 bits", x.shown(2, 1), 0);
        Due.is("shown, 18 bits", x.shown(3, 0), -2);
        Due.is("true, 18 bits", x.shown(3, 1), 1);
        // & and | have no BITS.
        Due.read(x, 0, "((p&(q|(r&(s|(p|q)))))>(p&(q|(r&(s|(p|q))))))");
        Due.is("5 bits", x.shown(0, 0), 1);
        // Four ATOMS and six parts with > or !: 10 BITS.
        Due.read(x, 0, "((p&(q&(r&s)))>((p>q)&((q>r)&((r>s)&((s>p)&!!T)))))");
        Due.is("11 bits", x.shown(0, 0), -2);
        Due.read(x, 0, "((p&(q&(r&s)))>((p>q)&((q>r)&((r>s)&((s>p)&(p>T))))))");
        Due.is("10 bits, shown", x.shown(0, 0), 1);
        Due.read(x, 0, "((p&(q&r))>((p>q)&((q>r)&((r>s)&((s>p)&(p>T))))))");
        Due.is("10 bits, not shown", x.shown(0, 0), 0);
    }
}
