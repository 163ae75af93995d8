/** Promises 13 to 15: TYPES that FALL, LAWS of LOGICS, what follows. */
public final class LogicTest {
    private static final String[] NAMES = {"K", "D", "T", "K4", "S4", "KB", "TB", "S5"};

    public static void main(String[] args) {
        laws();
        numbers();
        falls();
        bitsAtMost();
        follows();
        wrongOnes();
        Due.end();
    }

    /** The LOGICS of which a text is a LAW, from K to S5. */
    private static void law(String text, String logics) {
        SeenWorlds x = Due.with(text, "!" + text);
        for (int l = 0; l < 8; l++) {
            int want = logics.contains(" " + NAMES[l] + " ") ? 1 : 0;
            Due.is(text + " a law of " + NAMES[l], x.logic(0, l, 1), want);
            Due.is("not " + text + " possible by " + NAMES[l], x.logic(1, l, 0), 1 - want);
        }
    }

    private static void laws() {
        String all = " K D T K4 S4 KB TB S5 ";
        law("T", all);
        law("F", " ");
        law("p", " ");
        law("(p|!p)", all);
        law("([(p>q)>([p>[q))", all);
        law("({p>![!p)", all);
        law("(![!p>{p)", all);
        law("[T", all);
        law("{T", " D T S4 TB S5 ");
        law("([p>{p)", " D T S4 TB S5 ");
        law("([p>p)", " T S4 TB S5 ");
        law("(p>{p)", " T S4 TB S5 ");
        law("([p>[[p)", " K4 S4 S5 ");
        law("({{p>{p)", " K4 S4 S5 ");
        law("(p>[{p)", " KB TB S5 ");
        law("({[p>p)", " KB TB S5 ");
        law("({p>[{p)", " S5 ");
        law("({[p>[p)", " S5 ");
        law("({[p>[{p)", " KB TB S5 ");
        law("([[p>[p)", " T S4 TB S5 ");
        law("([([p>p)>[p)", " ");
        law("(({p&{q)>{(p&q))", " ");
        law("(({p&[q)>{(p&q))", all);
        law("([(p|q)>([p|{q))", all);
        law("([(p|q)>([p|[q))", " ");
    }

    private static void numbers(String text, int logic, int... want) {
        SeenWorlds x = Due.with(text);
        for (int what = 0; what < want.length; what++) {
            Due.is(text + " by " + NAMES[logic] + ", " + what, x.logic(0, logic, what), want[what]);
        }
    }

    private static void numbers() {
        // POSSIBLE, LAW, WITNESS, SHOWN, FIT, stay, ROUNDS
        numbers("T", 0, 1, 1, 0, 1, 1, 1, 0);
        numbers("T", 1, 1, 1, 0, 1, 1, 1, 0);
        numbers("F", 0, 0, 0, -9, 0, 1, 1, 0);
        numbers("p", 7, 1, 0, 1, 2, 2, 2, 0);
        // BITS are {p, p. Those with {p may see all, the others those without p.
        numbers("{p", 0, 1, 0, 1, 4, 4, 4, 0);
        numbers("!{p", 0, 1, 0, 0, 4, 4, 4, 0);
        numbers("{p", 2, 1, 0, 1, 3, 3, 3, 0);
        // A TYPE that claims both {F and not may see none: it falls.
        numbers("{F", 0, 0, 0, -9, 0, 2, 1, 1);
        numbers("[F", 0, 1, 0, 1, 1, 2, 2, 0);
        numbers("[F", 1, 0, 0, -9, 0, 2, 1, 1);
        numbers("[F", 2, 0, 0, -9, 0, 1, 1, 0);
        // {{F: {{F falls a round after {F has fallen.
        numbers("{{F", 0, 0, 0, -9, 0, 4, 1, 2);
        numbers("{{{F", 0, 0, 0, -9, 0, 8, 1, 3);
        numbers("{{{{F", 0, 0, 0, -9, 0, 16, 1, 4);
        numbers("[[F", 1, 0, 0, -9, 0, 4, 1, 2);
        numbers("[p", 5, 1, 0, 1, 4, 4, 4, 0);
        numbers("[p", 7, 1, 0, 3, 1, 3, 3, 0);
        numbers("({p&{!p)", 7, 1, 0, 5, 2, 4, 4, 0);
    }

    private static void falls(String text, int logic, int... want) {
        SeenWorlds x = Due.with(text);
        for (int type = 0; type < want.length; type++) {
            Due.is(text + " by " + NAMES[logic] + ", type " + type, x.falls(0, logic, type), want[type]);
        }
        Due.is(text + ", one type too many", x.falls(0, logic, want.length), -1);
    }

    private static void falls() {
        falls("T", 0, -9);
        falls("F", 7, -9);
        falls("p", 0, -9, -9);
        falls("([p>p)", 2, -9, 0, -9, -9);
        falls("(p>[p)", 2, -9, -9, 0, -9);
        falls("{F", 0, -9, 1);
        falls("{{F", 0, -9, 2, 1, 1);
        falls("{{{F", 0, -9, 3, 2, 2, 1, 1, 1, 1);
        falls("[[F", 1, -9, 2, 1, 1);
        falls("[F", 1, -9, 1);
        // {p, {!p, p by S5: bits in the order in which they stand are {p, p, {!p.
        falls("({p&{!p)", 7, 0, 0, 0, -9, -9, -9, 0, -9);
        SeenWorlds x = new SeenWorlds();
        Due.is("falls of T, type -1", x.falls(0, 0, -1), -1);
        Due.is("falls of T, type max", x.falls(0, 0, Integer.MAX_VALUE), -1);
    }

    private static void bitsAtMost() {
        SeenWorlds x = Due.with(Due.times("[", 9) + "p", Due.times("[", 10) + "p", Due.times("{", 11) + "F", Due.times("[", 20) + "p");
        for (int l = 0; l < 8; l++) {
            Due.is("10 bits", x.logic(0, l, 0), 1);
            for (int what = 0; what < 7; what++) {
                Due.is("11 bits, " + what, x.logic(1, l, what), -2);
                Due.is("11 modal bits, " + what, x.logic(2, l, what), -2);
            }
            Due.is("BAD before STATE", x.logic(1, l, 7), -1);
            Due.is("falls, 11 bits", x.falls(1, l, 5), -2);
            Due.is("falls, 11 bits, -1", x.falls(1, l, -1), -1);
            Due.is("falls, 21 bits", x.falls(3, l, 1 << 20), -2);
            Due.is("falls, 10 bits", x.falls(0, l, 1024), -1);
            Due.is("follows, 10 bits and the same", x.follows(0, 0, l), 1);
            Due.is("follows, 11 bits", x.follows(0, 1, l), -2);
        }
        Due.is("1024 types", x.logic(0, 0, 4), 1024);
        Due.is("falls, the last of 10 bits", x.falls(0, 0, 1023), -9);
        // The same part twice has one bit.
        Due.read(x, 4, "(([[p&[[p)&([p|[[p))");
        Due.is("bits of the same text", x.logic(4, 0, 4), 8);
    }

    private static void follows(String first, String second, String logics) {
        SeenWorlds x = Due.with(first, second);
        for (int l = 0; l < 8; l++) {
            int want = logics.contains(" " + NAMES[l] + " ") ? 1 : 0;
            Due.is(second + " follows " + first + " by " + NAMES[l], x.follows(0, 1, l), want);
        }
        Due.is("signs of the first stay", x.about(0, 2), Due.with(first).about(0, 2));
    }

    private static void follows() {
        String all = " K D T K4 S4 KB TB S5 ";
        follows("p", "p", all);
        follows("F", "p", all);
        follows("p", "F", " ");
        follows("T", "p", " ");
        follows("(p&q)", "p", all);
        follows("p", "(p&q)", " ");
        follows("[p", "p", " T S4 TB S5 ");
        follows("[p", "[[p", " K4 S4 S5 ");
        follows("p", "[{p", " KB TB S5 ");
        follows("{p", "[{p", " S5 ");
        follows("[(p&q)", "([p&[q)", all);
        follows("[p", "{p", " D T S4 TB S5 ");
        // Five bits each, none shared: 10 at most.
        follows("[[[[p", "{{{{q", " ");
        SeenWorlds x = Due.with("[[[[p", "{{{{{q", "{[[[[p");
        Due.is("follows, 11 bits", x.follows(0, 1, 0), -2);
        Due.is("follows, shared bits, T", x.follows(0, 2, 2), 1);
        Due.is("follows, shared bits, D", x.follows(0, 2, 1), 0);
        Due.is("follows, two long ones", longOnes(), 1);
    }

    /** Both have 40 SIGNS, so ( i > j ) has 81: it is not read, and so not refused. */
    private static int longOnes() {
        String text = "!" + Due.times("(p&", 18) + "(p&[q)" + Due.times(")", 18);
        SeenWorlds x = Due.with(text.substring(1), text.substring(1));
        Due.is("40 signs", x.about(0, 0), 40);
        return x.follows(0, 1, 0);
    }

    private static void wrongOnes() {
        SeenWorlds x = new SeenWorlds();
        Due.is("logic(6, 0, 0)", x.logic(6, 0, 0), -1);
        Due.is("logic(-1, 0, 0)", x.logic(-1, 0, 0), -1);
        Due.is("logic(0, 8, 0)", x.logic(0, 8, 0), -1);
        Due.is("logic(0, -1, 0)", x.logic(0, -1, 0), -1);
        Due.is("logic(0, 0, 7)", x.logic(0, 0, 7), -1);
        Due.is("logic(0, 0, -1)", x.logic(0, 0, -1), -1);
        Due.is("falls(6, 0, 0)", x.falls(6, 0, 0), -1);
        Due.is("falls(-1, 0, 0)", x.falls(-1, 0, 0), -1);
        Due.is("falls(0, 8, 0)", x.falls(0, 8, 0), -1);
        Due.is("falls(0, -1, 0)", x.falls(0, -1, 0), -1);
        Due.is("follows(6, 0, 0)", x.follows(6, 0, 0), -1);
        Due.is("follows(0, 6, 0)", x.follows(0, 6, 0), -1);
        Due.is("follows(-1, 0, 0)", x.follows(-1, 0, 0), -1);
        Due.is("follows(0, -1, 0)", x.follows(0, -1, 0), -1);
        Due.is("follows(0, 0, 8)", x.follows(0, 0, 8), -1);
        Due.is("follows(0, 0, -1)", x.follows(0, 0, -1), -1);
    }
}
