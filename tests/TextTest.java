/** Promises 7 to 10: THE TEXT, what is read, what is told about a SENTENCE. */
public final class TextTest {
    public static void main(String[] args) {
        type();
        clear();
        read();
        faults();
        signsAtMost();
        openAtMost();
        about();
        Due.end();
    }

    private static void type() {
        SeenWorlds x = new SeenWorlds();
        Due.is("type(v, 0)", x.type(112, 0), -1);
        Due.is("type(v, 9)", x.type(112, 9), -1);
        Due.is("type(v, -1)", x.type(112, -1), -1);
        Due.is("text after BAD", x.count(2), 0);
        Due.is("the lowest bytes alone", x.type(0x7071725b70L, 2), 2);
        Due.is("they are [p", x.read(0), 2);
        Due.is("[p must", x.about(0, 1), 1);
        Due.is("the highest first", x.type(0x5b7b70L, 3), 3);
        x.read(1);
        Due.see(x, "01");
        Due.is("[{p", x.holds(1, 0), 6);
        Due.is("eight", x.type(-1L, 8), 8);
        x.clear();
        for (int k = 1; k <= 25; k++) Due.is("type to " + 8 * k, x.type(0L, 8), 8L * k);
        Due.is("201st byte", x.type(0L, 1), -3);
        Due.is("FULL, 8", x.type(0L, 8), -3);
        Due.is("BAD before FULL", x.type(0L, 9), -1);
        Due.is("text after FULL", x.count(2), 200);
        x.clear();
        for (int k = 1; k <= 24; k++) x.type(0L, 8);
        Due.is("to 195", x.type(0L, 3), 195);
        Due.is("201 bytes", x.type(0L, 6), -3);
        Due.is("nothing came", x.count(2), 195);
        Due.is("to 200", x.type(0L, 5), 200);
    }

    private static void clear() {
        SeenWorlds x = new SeenWorlds();
        Due.is("clear of none", x.clear(), 0);
        Due.type(x, "pqr");
        Due.is("clear of three", x.clear(), 3);
        Due.is("clear again", x.clear(), 0);
        Due.is("count after clear", x.count(2), 0);
        Due.is("read after clear", x.read(0), -10);
    }

    private static void read() {
        SeenWorlds x = new SeenWorlds();
        for (String leaf : new String[] {"p", "q", "r", "s", "T", "F"}) {
            Due.is("read " + leaf, Due.read(x, 0, leaf), 1);
            for (String prefix : new String[] {"!", "[", "{"}) Due.is("read " + prefix + leaf, Due.read(x, 1, prefix + leaf), 2);
        }
        Due.is("text after read", x.count(2), 0);
        Due.is("(p&q)", Due.read(x, 5, "(p&q)"), 3);
        Due.is("(p|q)", Due.read(x, 5, "(p|q)"), 3);
        Due.is("(p>q)", Due.read(x, 5, "(p>q)"), 3);
        Due.is("deep", Due.read(x, 5, "![((p&q)>{!(r|[s))"), 12);
        Due.is("signs kept", x.about(5, 0), 12);
        Due.type(x, "p");
        Due.is("read(6)", x.read(6), -1);
        Due.is("read(-1)", x.read(-1), -1);
        Due.is("text after BAD", x.count(2), 1);
        Due.type(x, "p");
        Due.is("pp", x.read(5), -11);
        Due.is("text after FAULT", x.count(2), 2);
        Due.is("sentence after FAULT", x.about(5, 0), 12);
        Due.is("parts after FAULT", x.about(5, 2), 12);
        Due.is("BAD before FAULT", x.read(6), -1);
    }

    private static void fault(String text, int place) {
        SeenWorlds x = new SeenWorlds();
        Due.is("read " + text, Due.read(x, 0, text), -10L - place);
        Due.is("text after " + text, x.count(2), text.length());
        Due.is("sentence after " + text, x.about(0, 0), 1);
    }

    private static void faults() {
        fault("", 0);
        fault("x", 0);
        fault(" p", 0);
        fault("p ", 1);
        fault("p\n", 1);
        fault(")", 0);
        fault("]", 0);
        fault("&", 0);
        fault("t", 0);
        fault("o", 0);
        fault("f", 0);
        fault("\u00f0", 0);
        fault("\u0000", 0);
        fault("(", 1);
        fault("(p", 2);
        fault("(p)", 2);
        fault("(p&", 3);
        fault("(p&)", 3);
        fault("(p&q", 4);
        fault("(p&q&r)", 4);
        fault("(p&&q)", 3);
        fault("(p!q)", 2);
        fault("(pq)", 2);
        fault("(p&q]", 4);
        fault("(p&q))", 5);
        fault("(p&q)p", 5);
        fault("p&q", 1);
        fault("!", 1);
        fault("[", 1);
        fault("![{", 3);
        fault("!)", 1);
        fault("[p]", 2);
        fault("()", 1);
        fault("((p&q)", 6);
        fault("((p&q)>", 7);
        fault("!!p!", 3);
        fault("(!p&!q!)", 6);
        fault("([p>{q)(", 7);
    }

    private static void signsAtMost() {
        SeenWorlds x = new SeenWorlds();
        // 19 binary signs and 20 leaves, and a prefix: 40 signs.
        String forty = "!" + Due.times("(p&", 19) + "p" + Due.times(")", 19);
        Due.is("40 signs", Due.read(x, 0, forty), 40);
        Due.is("parts of 40 signs", x.about(0, 2), 21);
        // 40 SIGNS, and no end: the 41st SIGN can't stand, but a ( can.
        String left = "(((((" + "p" + Due.times("&p)", 5);
        Due.is("left-handed", Due.read(x, 1, left), 11);
        String long40 = "(" + chain(19) + "&p)";
        Due.is("41 signs", Due.read(x, 1, long40), -10 - (long40.length() - 2));
        String fortyAndOpen = "(" + chain(19) + "&(";
        fault(fortyAndOpen, fortyAndOpen.length());
        fault(fortyAndOpen + "p", fortyAndOpen.length());
        fault(fortyAndOpen + ")", fortyAndOpen.length());
        Due.is("forty with all kinds", Due.read(x, 2, "[" + chain(19)), 40);
        fault("[" + chain(19) + "p", ("[" + chain(19)).length());
        fault("[" + chain(19) + ")", ("[" + chain(19)).length());
    }

    /** n signs between n + 1 leaves, never more than two open. */
    private static String chain(int n) {
        if (n == 0) return "p";
        int left = (n - 1) / 2;
        return "(" + chain(left) + "|" + chain(n - 1 - left) + ")";
    }

    private static void openAtMost() {
        SeenWorlds x = new SeenWorlds();
        Due.is("20 prefixes", Due.read(x, 0, Due.times("[", 20) + "p"), 21);
        Due.is("depth 20", x.about(0, 1), 20);
        fault(Due.times("[", 21) + "p", 20);
        fault(Due.times("(", 21), 20);
        fault(Due.times("(", 200), 20);
        fault(Due.times("(", 20), 20);
        fault(Due.times("(", 19) + "!!p", 20);
        fault(Due.times("(", 20) + "!p", 20);
        Due.is("19 ( and a prefix", Due.read(x, 1, Due.times("(", 19) + "!p" + Due.times("&p)", 19)), 40);
        // A prefix is open until what stands behind it ends; a ( until its ).
        Due.is("closed again", Due.read(x, 2, "(" + Due.times("!", 18) + "p&" + Due.times("!", 19) + "p)"), 40);
        fault("(" + Due.times("!", 18) + "p&" + Due.times("!", 20) + "p)", 1 + 18 + 2 + 19);
        Due.is("prefixes of ( )", Due.read(x, 3, Due.times("!", 19) + "(p&q)"), 22);
        fault(Due.times("!", 20) + "(p&q)", 20);
        fault(Due.times("!", 19) + "(!p&q)", 20);
        fault(Due.times("!", 19) + "(p&!q)", 22);
        Due.is("one more after (( ))", Due.read(x, 4, Due.times("!", 18) + "((p&q)&!q)"), 24);
    }

    private static void about(String text, int signs, int depth, int parts, int atoms) {
        SeenWorlds x = Due.with(text);
        Due.is("signs of " + text, x.about(0, 0), signs);
        Due.is("depth of " + text, x.about(0, 1), depth);
        Due.is("parts of " + text, x.about(0, 2), parts);
        Due.is("atoms of " + text, x.about(0, 3), atoms);
        Due.is("plain " + text, x.about(0, 4), depth == 0 ? 1 : 0);
    }

    private static void about() {
        about("p", 1, 0, 1, 1);
        about("s", 1, 0, 1, 8);
        about("F", 1, 0, 1, 0);
        about("!!!T", 4, 0, 4, 0);
        about("(p&p)", 3, 0, 2, 1);
        about("(p&q)", 3, 0, 3, 3);
        about("((p&q)|(q&p))", 7, 0, 5, 3);
        about("((p&q)|(p&q))", 7, 0, 4, 3);
        about("[{[p", 4, 3, 4, 1);
        about("([[p>{q)", 6, 2, 6, 3);
        about("({q>[[p)", 6, 2, 6, 3);
        about("[![{!s", 6, 3, 6, 8);
        about("(([p|[p)&(r>[p))", 10, 1, 6, 5);
        about("((p>q)&((p|q)>(p&q)))", 11, 0, 7, 3);
        SeenWorlds x = new SeenWorlds();
        Due.is("about(6, 0)", x.about(6, 0), -1);
        Due.is("about(-1, 0)", x.about(-1, 0), -1);
        Due.is("about(0, 5)", x.about(0, 5), -1);
        Due.is("about(0, -1)", x.about(0, -1), -1);
        Due.read(x, 0, "(p&(q&(r&s)))");
        Due.read(x, 0, "q");
        Due.is("parts of a shorter one", x.about(0, 2), 1);
        Due.is("atoms of a shorter one", x.about(0, 3), 2);
    }
}
