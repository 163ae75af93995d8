/** Promises 13 to 15 at their edges: a method for each sentence of the document that names one. */
public final class EdgesLogicTest {
    private static final int K = 0, D = 1, T = 2, K4 = 3, S4 = 4, KB = 5, TB = 6, S5 = 7;
    private static final int NEVER = -9;

    public static void main(String[] args) {
        bitsInOrder();
        bitsOnceForTheSameText();
        tenBitsAtMost();
        soManyNumbers();
        mustByEachLogic();
        mayByEachLogic();
        fitByEachLogic();
        allFallAtOnce();
        mustThatDoesNotHold();
        thoseThatSeeNone();
        roundsFewAndMany();
        possibleAndLaw();
        witnessAndShown();
        logicRefused();
        fallsFirstAndLast();
        fallsTheRoundsOfAll();
        fallsRefused();
        followsIsALaw();
        followsBitsOfBoth();
        followsLongOnes();
        followsOfMostParts();
        followsRefused();
        Due.end();
    }

    private static int logic(String text, int logic, int what) {
        return Due.with(text).logic(0, logic, what);
    }

    private static void witness(String text, int want) {
        for (int l = 0; l < 8; l++) Due.is("witness of " + text + " by " + l, logic(text, l, 2), want);
    }

    // "BITS in the order in which they first stand in the text"
    private static void bitsInOrder() {
        witness("p", 1);
        witness("!p", 0);
        witness("(p&!q)", 1);
        witness("(!q&p)", 2);
        witness("(s&(!r&(q&!p)))", 1 + 4);
        witness("(!p&(!q&(!r&s)))", 8);
        // A part begins before what it is made of.
        Due.is("[p, p", logic("([p&p)", K, 2), 3);
        Due.is("[p alone", logic("([p&!p)", K, 2), 1);
        Due.is("p before [q", logic("(p&![q)", K, 2), 1);
        Due.is("[q, q, p", logic("(![q&p)", K, 2), 4);
        Due.is("{s, s, r", logic("({s&r)", K, 2), 1 + 4);
        Due.is("r, {s, s", logic("(r&{s)", K, 2), 1 + 2);
        Due.is("{p, p, [{p", logic("({p&[{p)", K, 2), 1 + 4);
        Due.is("[{p, {p, p", logic("([{p&{p)", K, 2), 1 + 2);
        Due.is("{(q&p), q, p", logic("({(q&p)&(p&!q))", K, 2), 1 + 4);
        // p stands before [p, which has it too.
        Due.is("p, [p", logic("(!p&[p)", K, 2), 2);
        Due.is("q, p, {(p&q)", logic("((q>p)&(!q&{(p&q)))", K, 2), 4);
    }

    private static void bitsOnceForTheSameText() {
        Due.is("p often", logic("((p&p)|(p>p))", K, 4), 2);
        Due.is("[p often", logic("(([p&[p)|([p>!p))", K, 4), 4);
        Due.is("[p and [!p", logic("([p|[!p)", K, 4), 8);
        Due.is("[p and {p", logic("([p|{p)", K, 4), 8);
        Due.is("[(p&q) and [(q&p)", logic("([(p&q)|[(q&p))", K, 4), 16);
        Due.is("[[p and [p", logic("([[p|[p)", K, 4), 8);
        Due.is("no bits", logic("((T&F)|!(T>F))", K, 4), 1);
        // Ten BITS, each twice.
        String ten = Due.times("[", 9) + "p";
        Due.is("ten bits twice", logic("(" + ten + "&" + ten + ")", K, 4), 1024);
        Due.is("eleven bits twice", logic("([" + ten + "&[" + ten + ")", K, 4), -2);
    }

    /** SENTENCES of some ATOMS and so many BITS. */
    private static String withBits(int atoms, int bits) {
        String text = Due.times("[", bits - atoms) + (atoms == 0 ? "F" : "p");
        for (int a = 1; a < atoms; a++) text = "(" + text + "&" + "pqrs".charAt(a) + ")";
        return text;
    }

    // "(10 at most, else STATE)"
    private static void tenBitsAtMost() {
        for (int atoms = 0; atoms <= 4; atoms++) {
            SeenWorlds x = Due.with(withBits(atoms, 10), withBits(atoms, 11), withBits(atoms, 12), withBits(atoms, 9));
            for (int l = 0; l < 8; l++) {
                for (int what = 0; what < 7; what++) {
                    Due.is("10 BITS, " + what + " by " + l, x.logic(0, l, what) == -2 ? 1 : 0, 0);
                    Due.is("9 BITS, " + what + " by " + l, x.logic(3, l, what) == -2 ? 1 : 0, 0);
                    Due.is("11 BITS, " + what + " by " + l, x.logic(1, l, what), -2);
                    Due.is("12 BITS, " + what + " by " + l, x.logic(2, l, what), -2);
                }
                Due.is("10 BITS, possible by " + l, x.logic(0, l, 0), atoms > 0 || l == K || l == K4 || l == KB ? 1 : 0);
                Due.is("10 BITS, a law of " + l, x.logic(0, l, 1), 0);
            }
            Due.is("10 BITS, FIT TYPES", x.logic(0, K, 4), 1024);
            Due.is("9 BITS, FIT TYPES", x.logic(3, K, 4), 512);
        }
        Due.is("20 BITS", logic(Due.times("{", 20) + "F", K, 0), -2);
        Due.is("21 BITS", logic(Due.times("{", 20) + "p", K, 0), -2);
        String most = "((" + Due.times("[", 16) + "p|" + Due.times("{", 18) + "q)>s)";
        Due.is("as many BITS as SIGNS allow", logic(most, S5, 1), -2);
        Due.is("those of a LAW", logic("(" + withBits(1, 11) + "|T)", K, 1), -2);
    }

    // "so many numbers", "(by others each is)"
    private static void soManyNumbers() {
        int[] eachIs = {K, D, K4, KB};
        for (int bits = 0; bits <= 10; bits++) {
            for (int l : eachIs) Due.is("FIT TYPES of " + bits + " BITS by " + l, logic(Due.times("[", bits) + "T", l, 4), 1 << bits);
        }
        for (int l = 0; l < 8; l++) {
            Due.is("ATOMS alone are FIT by " + l, logic("(p&(q&(r&s)))", l, 4), 16);
            Due.is("and stay by " + l, logic("(p&(q&(r&s)))", l, 5), 16);
            Due.is("each MAY SEE each by " + l, logic("(p&(q&(r&s)))", l, 3), 16);
        }
    }

    private static void numbers(String text, int logic, int... want) {
        SeenWorlds x = Due.with(text);
        for (int what = 0; what < 7; what++) Due.is(text + " by " + logic + ", " + what, x.logic(0, logic, what), want[what]);
    }

    // "A TYPE a MAY SEE b: for each part [ x that holds at a, x holds at b", and what each LOGIC adds
    private static void mustByEachLogic() {
        // BITS [p, p. POSSIBLE, LAW, WITNESS, SHOWN, FIT, stay, ROUNDS
        numbers("[p", K, 1, 0, 1, 4, 4, 4, 0);
        numbers("[p", D, 1, 0, 1, 4, 4, 4, 0);
        numbers("[p", T, 1, 0, 3, 3, 3, 3, 0);
        numbers("[p", K4, 1, 0, 1, 2, 4, 4, 0);
        numbers("[p", S4, 1, 0, 3, 1, 3, 3, 0);
        numbers("[p", KB, 1, 0, 1, 4, 4, 4, 0);
        numbers("[p", TB, 1, 0, 3, 3, 3, 3, 0);
        numbers("[p", S5, 1, 0, 3, 1, 3, 3, 0);
        numbers("![p", K, 1, 0, 0, 4, 4, 4, 0);
        numbers("![p", S5, 1, 0, 0, 2, 3, 3, 0);
    }

    // "for each { x that does not, x does not"
    private static void mayByEachLogic() {
        // BITS {p, p.
        numbers("{p", K, 1, 0, 1, 4, 4, 4, 0);
        numbers("{p", D, 1, 0, 1, 4, 4, 4, 0);
        numbers("{p", T, 1, 0, 1, 3, 3, 3, 0);
        numbers("{p", K4, 1, 0, 1, 4, 4, 4, 0);
        numbers("{p", S4, 1, 0, 1, 3, 3, 3, 0);
        numbers("{p", KB, 1, 0, 1, 4, 4, 4, 0);
        numbers("{p", TB, 1, 0, 1, 3, 3, 3, 0);
        numbers("{p", S5, 1, 0, 1, 2, 3, 3, 0);
        numbers("!{p", K4, 1, 0, 0, 1, 4, 4, 0);
        numbers("!{p", S4, 1, 0, 0, 1, 3, 3, 0);
        numbers("!{p", T, 1, 0, 0, 3, 3, 3, 0);
    }

    // "A TYPE is FIT by T, TB, S4, S5, if it MAY SEE itself by that LOGIC (by others each is)."
    private static void fitByEachLogic() {
        boolean[] itself = {false, false, true, false, true, false, true, true};
        for (int l = 0; l < 8; l++) {
            // [p without p, {p not though p: these are not FIT.
            int[] must = {1, 0, 1, 1};
            int[] may = {1, 1, 0, 1};
            SeenWorlds x = Due.with("[p", "{p", "[F", "{T");
            for (int type = 0; type < 4; type++) {
                Due.is("[p, type " + type + " by " + l, x.falls(0, l, type) == 0 ? 0 : 1, itself[l] ? must[type] : 1);
                Due.is("{p, type " + type + " by " + l, x.falls(1, l, type) == 0 ? 0 : 1, itself[l] ? may[type] : 1);
            }
            Due.is("[F is not FIT by " + l, x.falls(2, l, 1), itself[l] ? 0 : l == D ? 1 : NEVER);
            Due.is("{T not is not FIT by " + l, x.falls(3, l, 0), itself[l] ? 0 : l == D ? 1 : NEVER);
            Due.is("FIT TYPES of [F by " + l, x.logic(2, l, 4), itself[l] ? 1 : 2);
        }
    }

    // "In a ROUND all FALL at once"
    private static void allFallAtOnce() {
        // Were they to FALL one by one, upwards or downwards, some ROUND would come too early.
        falls("{{F", K, NEVER, 2, 1, 1);
        falls("({F&{{F)", K, NEVER, 1, 2, 1);
        falls("{{{F", K, NEVER, 3, 2, 2, 1, 1, 1, 1);
        falls("({F&({{F&{{{F))", K, NEVER, 1, 2, 1, 3, 1, 2, 1);
        falls("({{{F&{F)", K, NEVER, 3, 2, 2, 1, 1, 1, 1);
        falls("([F&[[F)", D, NEVER, 1, 2, 1);
        falls("[[F", D, NEVER, 2, 1, 1);
        falls("[[[F", D, NEVER, 3, 2, 2, 1, 1, 1, 1);
    }

    private static void falls(String text, int logic, int... want) {
        SeenWorlds x = Due.with(text);
        for (int type = 0; type < want.length; type++) {
            Due.is(text + " by " + logic + ", type " + type, x.falls(0, logic, type), want[type]);
        }
        Due.is(text + ", first that is none", x.falls(0, logic, want.length), -1);
    }

    // "or [ x that does not, but no TYPE that is there, that they MAY SEE, at which x .. (does not)"
    private static void mustThatDoesNotHold() {
        for (int l : new int[] {K, D, T, K4, S4, KB, TB, S5}) {
            numbers("[T", l, 1, 1, 1, 1, 2, 1, 1);
            numbers("![T", l, 0, 0, NEVER, 0, 2, 1, 1);
        }
        // One may be seen, but none of these is as it should be.
        falls("([p&{!p)", K, 1, NEVER, 1, NEVER, NEVER, 1, NEVER, 1);
        falls("([p&![p)", K, NEVER, NEVER, NEVER, NEVER);
        falls("({p&[!p)", K, 1, NEVER, 1, NEVER, NEVER, 1, NEVER, 1);
    }

    // "by D also those that MAY SEE none that is there"
    private static void thoseThatSeeNone() {
        numbers("[F", K, 1, 0, 1, 1, 2, 2, 0);
        numbers("[F", D, 0, 0, NEVER, 0, 2, 1, 1);
        numbers("[F", T, 0, 0, NEVER, 0, 1, 1, 0);
        numbers("[F", K4, 1, 0, 1, 1, 2, 2, 0);
        numbers("[F", S4, 0, 0, NEVER, 0, 1, 1, 0);
        numbers("[F", KB, 1, 0, 1, 1, 2, 2, 0);
        numbers("[F", TB, 0, 0, NEVER, 0, 1, 1, 0);
        numbers("[F", S5, 0, 0, NEVER, 0, 1, 1, 0);
        numbers("{T", K, 1, 0, 1, 2, 2, 2, 0);
        numbers("{T", D, 1, 1, 1, 1, 2, 1, 1);
        // [p and [!p: by K it sees none and stays, by D it falls.
        Due.is("all and nothing by K", logic("([p&[!p)", K, 0), 1);
        Due.is("all and nothing by D", logic("([p&[!p)", D, 0), 0);
        // By D a TYPE falls that saw only such as have fallen.
        numbers("[[F", D, 0, 0, NEVER, 0, 4, 1, 2);
    }

    // "6 ROUNDS in which any FALL"
    private static void roundsFewAndMany() {
        for (int k = 0; k <= 10; k++) {
            String may = Due.times("{", k) + "F";
            String must = Due.times("[", k) + "F";
            for (int l : new int[] {K, D, KB}) Due.is("ROUNDS of " + may + " by " + l, logic(may, l, 6), k);
            Due.is("ROUNDS of " + must + " by D", logic(must, D, 6), k);
            Due.is("those that stay of " + may, logic(may, K, 5), 1);
            Due.is("those that stay of " + must, logic(must, D, 5), 1);
            Due.is("possible " + may, logic(may, K, 0), 0);
            for (int l : new int[] {K4, S4, S5}) Due.is("ROUNDS of " + may + " by " + l, logic(may, l, 6), k == 0 ? 0 : 1);
        }
        for (int l = 0; l < 8; l++) {
            Due.is("none FALL of p by " + l, logic("p", l, 6), 0);
            Due.is("none FALL of T by " + l, logic("T", l, 6), 0);
        }
    }

    // "POSSIBLE .. if it holds at some TYPE that never FALLS; LAW: if it holds at all these"
    private static void possibleAndLaw() {
        String[] texts = {"T", "F", "p", "!p", "(p|!p)", "(p&!p)", "([p>{p)", "([p>p)", "([p>[[p)", "(p>[{p)", "({p>[{p)", "{T", "[F", "{{F"};
        for (String text : texts) {
            SeenWorlds x = Due.with(text, "!" + text);
            for (int l = 0; l < 8; l++) {
                Due.is(text + " possible or its not a law, " + l, x.logic(0, l, 0), 1 - x.logic(1, l, 1));
                Due.is(text + " a law or its not possible, " + l, x.logic(0, l, 1), 1 - x.logic(1, l, 0));
                Due.is(text + " possible where there is a witness, " + l, x.logic(0, l, 0), x.logic(0, l, 2) == NEVER ? 0 : 1);
                Due.is(text + " none come to without a witness, " + l, x.logic(0, l, 3) == 0 ? 0 : 1, x.logic(0, l, 0));
                Due.is(text + " stay, so do those of not, " + l, x.logic(0, l, 5), x.logic(1, l, 5));
                // One WORLD that sees itself is a net of each LOGIC: some TYPE always stays.
                Due.is(text + " some stay, " + l, x.logic(0, l, 5) > 0 ? 1 : 0, 1);
            }
        }
        numbers("T", S5, 1, 1, 0, 1, 1, 1, 0);
        numbers("F", S5, 0, 0, NEVER, 0, 1, 1, 0);
        numbers("p", K, 1, 0, 1, 2, 2, 2, 0);
        numbers("(p|!p)", K, 1, 1, 0, 2, 2, 2, 0);
        // It holds at a TYPE that is there at first alone.
        numbers("{F", K, 0, 0, NEVER, 0, 2, 1, 1);
        numbers("!{F", K, 1, 1, 0, 1, 2, 1, 1);
    }

    // "WITNESS: the least such TYPE; SHOWN: how many TYPES that stay can be come to from it, itself too"
    private static void witnessAndShown() {
        witness("(p|q)", 1);
        witness("(p&q)", 3);
        witness("(p>q)", 0);
        Due.is("the least is not FIT", logic("[p", T, 2), 3);
        Due.is("the least falls", logic("({!p|({F|p))", K, 2), 1);
        Due.is("the greatest of 10 BITS", logic("(p&(" + Due.times("[", 9) + "p&(" + Due.times("[", 8) + "p&!F)))", S5, 2), 1023);
        // Itself alone, though it sees none; in steps, not in one.
        Due.is("itself alone", logic("[F", K, 3), 1);
        // {[F and [F contradict one another: that TYPE falls, and so is not come to.
        numbers("{[F", K, 1, 0, 1, 3, 4, 3, 1);
        numbers("(p&([p&[[p))", S4, 1, 0, 7, 1, 4, 3, 1);
        Due.is("not come to by what fell", logic("!{F", K, 3), 1);
        // Those of [[F see those of [F, and these see none: a chain, each MAY SEE the next alone.
        for (int k = 1; k <= 10; k++) {
            Due.is("a chain of " + k, logic(Due.times("[", k) + "F", K, 3), k);
            Due.is("all that stay, " + k, logic(Due.times("[", k) + "F", K, 5), k + 1);
        }
        Due.is("no witness, none come to", logic("(p&!p)", K, 3), 0);
    }

    private static SeenWorlds busy() {
        SeenWorlds x = Due.with("p", "([p>{q)", Due.times("[", 9) + "p", Due.times("[", 10) + "p", "{{F");
        Due.see(x, "01 12 20 22");
        x.atom(0, 5);
        x.atom(1, 6);
        x.seen(2, 1);
        Due.type(x, "{[q");
        return x;
    }

    private static final int[] OUT = {Integer.MIN_VALUE, -1, 8, 9, Integer.MAX_VALUE};

    private static void logicRefused() {
        Whole busy = new Whole("busy", EdgesLogicTest::busy);
        for (int out : new int[] {Integer.MIN_VALUE, -1, 6, 7, Integer.MAX_VALUE}) {
            busy.keeps("logic(" + out + ", 0, 0)", x -> x.logic(out, 0, 0), -1);
            busy.keeps("logic(" + out + ", 8, 7)", x -> x.logic(out, 8, 7), -1);
        }
        // SENTENCE 3 has 11 BITS: BAD comes before STATE.
        for (int i : new int[] {0, 3, 5}) {
            for (int out : OUT) {
                for (int what = 0; what < 7; what++) {
                    int asked = what;
                    busy.keeps("logic(" + i + ", " + out + ", " + what + ")", x -> x.logic(i, out, asked), -1);
                }
            }
            for (int out : new int[] {Integer.MIN_VALUE, -1, 7, 8, Integer.MAX_VALUE}) {
                for (int l = 0; l < 8; l++) {
                    int by = l;
                    busy.keeps("logic(" + i + ", " + l + ", " + out + ")", x -> x.logic(i, by, out), -1);
                }
            }
        }
        for (int l = 0; l < 8; l++) {
            for (int what = 0; what < 7; what++) {
                int by = l;
                int asked = what;
                busy.keeps("logic(3, " + l + ", " + what + ")", x -> x.logic(3, by, asked), -2);
            }
        }
        int[] want = {1, 1, 0, 1, 1, 1, 0};
        for (int what = 0; what < 7; what++) {
            int asked = what;
            busy.keeps("logic(5, 7, " + what + ")", x -> x.logic(5, 7, asked), want[what]);
        }
    }

    // "The ROUND in which a TYPE FALLS (1 ..); 0: it is not FIT; NONE: never."
    private static void fallsFirstAndLast() {
        for (int bits = 0; bits <= 10; bits++) {
            String[] texts = {Due.times("[", bits) + "T", Due.times("{", bits) + "F"};
            SeenWorlds x = Due.with(texts);
            int count = 1 << bits;
            for (int l = 0; l < 8; l++) {
                Due.is("the last of " + count + " by " + l, x.falls(0, l, count - 1), NEVER);
                Due.is("one more by " + l, x.falls(0, l, count), -1);
                Due.is("the first by " + l, x.falls(1, l, 0), NEVER);
                Due.is("one less by " + l, x.falls(1, l, -1), -1);
                Due.is("one more, may, by " + l, x.falls(1, l, count), -1);
            }
            if (bits == 0) continue;
            // No {F but one: all that have the innermost FALL first, the outermost alone FALLS last.
            for (int bit = 0; bit < bits; bit++) Due.is("bit " + bit + " of " + bits, x.falls(1, K, 1 << bit), bits - bit);
            Due.is("the last", x.falls(1, K, count - 1), 1);
            Due.is("0 of [..T by S5", x.falls(0, S5, 0), 1);
        }
    }

    private static void fallsTheRoundsOfAll() {
        String[] texts = {"{{{F", "([p>p)", "([p&{!p)", "({p>[{p)", "(p&{q)", "[[F"};
        SeenWorlds x = Due.with(texts);
        for (int i = 0; i < 6; i++) {
            for (int l = 0; l < 8; l++) {
                int fit = 0;
                int stay = 0;
                int most = 0;
                for (int type = 0; x.falls(i, l, type) != -1; type++) {
                    int round = x.falls(i, l, type);
                    if (round != 0) fit++;
                    if (round == NEVER) stay++;
                    most = Math.max(most, round);
                }
                Due.is(texts[i] + " FIT by " + l, x.logic(i, l, 4), fit);
                Due.is(texts[i] + " stay by " + l, x.logic(i, l, 5), stay);
                Due.is(texts[i] + " ROUNDS by " + l, x.logic(i, l, 6), most);
                x = Due.with(texts);
            }
        }
    }

    // "BAD: no such TYPE, too; STATE."
    private static void fallsRefused() {
        Whole busy = new Whole("busy", EdgesLogicTest::busy);
        int[] types = {2, 16, 1024, 2048, 8, 1};
        for (int i = 0; i < 6; i++) {
            int of = i;
            for (int type : new int[] {Integer.MIN_VALUE, -1, types[i], types[i] + 1, 1 << 20, 1 << 30, Integer.MAX_VALUE}) {
                busy.keeps("falls(" + i + ", 0, " + type + ")", x -> x.falls(of, 0, type), -1);
                busy.keeps("falls(" + i + ", 7, " + type + ")", x -> x.falls(of, 7, type), -1);
            }
            for (int out : OUT) {
                busy.keeps("falls(" + i + ", " + out + ", 0)", x -> x.falls(of, out, 0), -1);
                busy.keeps("falls(" + i + ", " + out + ", -1)", x -> x.falls(of, out, -1), -1);
            }
        }
        for (int out : new int[] {Integer.MIN_VALUE, -1, 6, 7, Integer.MAX_VALUE}) {
            busy.keeps("falls(" + out + ", 0, 0)", x -> x.falls(out, 0, 0), -1);
        }
        for (int l = 0; l < 8; l++) {
            int by = l;
            for (int type : new int[] {0, 1, 1023, 1024, 2047}) busy.keeps("falls(3, " + l + ", " + type + ")", x -> x.falls(3, by, type), -2);
            busy.keeps("falls(2, " + l + ", 1023)", x -> x.falls(2, by, 1023), NEVER);
            busy.keeps("falls(5, " + l + ", 0)", x -> x.falls(5, by, 0), NEVER);
        }
        // With 21 BITS, too, the last number is a TYPE, and the next is none.
        SeenWorlds x = Due.with(Due.times("{", 20) + "p", "((" + Due.times("[", 16) + "p|" + Due.times("{", 18) + "q)>s)");
        Due.is("21 BITS, the last", x.falls(0, 0, (1 << 21) - 1), -2);
        Due.is("21 BITS, one more", x.falls(0, 0, 1 << 21), -1);
        Due.is("37 BITS, the greatest number", x.falls(1, 0, Integer.MAX_VALUE), -2);
    }

    // "Whether ( SENTENCE i > SENTENCE j ) is a LAW of a LOGIC"
    private static void followsIsALaw() {
        String[] texts = {"T", "F", "p", "!p", "[p", "{p", "[[p", "[{p", "(p&q)", "({q|[F)", "{T", "[(p>q)"};
        for (String first : texts) {
            for (String second : texts) {
                SeenWorlds x = Due.with(first, second, "(" + first + ">" + second + ")");
                for (int l = 0; l < 8; l++) Due.is(second + " follows " + first + " by " + l, x.follows(0, 1, l), x.logic(2, l, 1));
            }
        }
        SeenWorlds x = Due.with(texts[2], texts[4], texts[5], texts[1], texts[0], texts[8]);
        for (int l = 0; l < 8; l++) {
            for (int i = 0; i < 6; i++) {
                Due.is("itself follows", x.follows(i, i, l), 1);
                Due.is("all follows F", x.follows(3, i, l), 1);
                Due.is("T follows all", x.follows(i, 4, l), 1);
                Due.is("what follows T is a LAW", x.follows(4, i, l), i == 4 ? 1 : 0);
            }
        }
    }

    // "(BITS of that SENTENCE)"
    private static void followsBitsOfBoth() {
        String ten = Due.times("[", 9) + "p";
        SeenWorlds x = Due.with("[[[[p", "{{{{q", "{{{{{q", ten, "[" + ten, "{p");
        for (int l = 0; l < 8; l++) {
            Due.is("5 and 5", x.follows(0, 1, l), 0);
            Due.is("5 and 6", x.follows(0, 2, l), -2);
            Due.is("6 and 5", x.follows(2, 0, l), -2);
            Due.is("10 and 5 of these", x.follows(3, 0, l) == -2 ? 1 : 0, 0);
            Due.is("5 of these and 10", x.follows(0, 3, l) == -2 ? 1 : 0, 0);
            Due.is("10 and the same", x.follows(3, 3, l), 1);
            Due.is("11 and 5 of these", x.follows(4, 0, l), -2);
            Due.is("11 and the same", x.follows(4, 4, l), -2);
            Due.is("10 and one more", x.follows(3, 5, l), -2);
            Due.is("one more and 10", x.follows(5, 3, l), -2);
        }
        x = Due.with(ten, "T", "F", "[" + ten, "q", "p");
        for (int l = 0; l < 8; l++) {
            Due.is("10 and none", x.follows(0, 1, l), 1);
            Due.is("none and 10", x.follows(2, 0, l), 1);
            // It would be a LAW, but has 11 BITS.
            Due.is("11 and none", x.follows(3, 1, l), -2);
            Due.is("none and 11", x.follows(2, 3, l), -2);
            Due.is("10 and an ATOM of these", x.follows(0, 5, l), l == T || l == S4 || l == TB || l == S5 ? 1 : 0);
            Due.is("10 and an ATOM more", x.follows(0, 4, l), -2);
        }
    }

    /** ( i > j ) may have more than 40 SIGNS and 20 open: it is no text that is read. */
    private static void followsLongOnes() {
        String first = "!!!((" + Due.times("!", 9) + "p&" + Due.times("!", 9) + "q)|((!!!r>[!{s)&(!T|!F)))";
        String second = "!((" + Due.times("!", 10) + "q|" + Due.times("!", 11) + "F)|((!r>![{s)&({!T|!r)))";
        SeenWorlds x = Due.with(first, second);
        Due.is("SIGNS of the first", x.about(0, 0), 40);
        Due.is("PARTS of the first", x.about(0, 2), 40);
        Due.is("SIGNS of the second", x.about(1, 0), 40);
        for (int l = 0; l < 8; l++) {
            Due.is("40 SIGNS, itself", x.follows(0, 0, l), 1);
            Due.is("40 SIGNS, the other itself", x.follows(1, 1, l), 1);
            Due.is("two of 40 SIGNS by " + l, x.follows(0, 1, l), modelFollows(first, second, l));
            Due.is("two of 40 SIGNS back by " + l, x.follows(1, 0, l), modelFollows(second, first, l));
        }
        x = Due.with(Due.times("!", 20) + "p", Due.times("!", 19) + "p", "F");
        Due.is("20 open within one more", x.follows(0, 0, K), 1);
        Due.is("20 open and 19", x.follows(0, 1, K), 0);
        Due.is("a FAULT after it", Due.read(x, 2, "(p&"), -13);
        Due.is("SENTENCE 2 stays", x.holds(2, 0), 0);
    }

    /** Two of 40 unlike PARTS each that share none: 81 with the whole. */
    private static void followsOfMostParts() {
        String never = "(" + Due.times("!", 19) + "T&" + Due.times("!", 18) + "F)";
        String always = "(" + Due.times("!", 18) + "T&" + Due.times("!", 19) + "F)";
        String some = "!!((" + Due.times("!", 16) + "p&" + Due.times("!", 14) + "q)|(!r>s))";
        String must = "!!((" + Due.times("!", 15) + "[p&" + Due.times("!", 12) + "{q)|([r>{s))";
        SeenWorlds x = Due.with(never, always, some, must);
        for (int i = 0; i < 4; i++) {
            Due.is("SIGNS of " + i, x.about(i, 0), 40);
            Due.is("PARTS of " + i, x.about(i, 2), 40);
        }
        for (int l = 0; l < 8; l++) {
            for (int i = 2; i < 4; i++) {
                Due.is("all follows what never holds by " + l, x.follows(0, i, l), 1);
                Due.is("not all is a LAW by " + l, x.follows(1, i, l), 0);
                Due.is("what always holds follows by " + l, x.follows(i, 1, l), 1);
                Due.is("what never holds does not follow by " + l, x.follows(i, 0, l), 0);
            }
        }
    }

    private static int modelFollows(String first, String second, int logic) {
        Model m = new Model();
        for (int k = 0; k < first.length(); k++) m.type(first.charAt(k), 1);
        m.read(0);
        for (int k = 0; k < second.length(); k++) m.type(second.charAt(k), 1);
        m.read(1);
        return m.follows(0, 1, logic);
    }

    private static void followsRefused() {
        Whole busy = new Whole("busy", EdgesLogicTest::busy);
        for (int out : new int[] {Integer.MIN_VALUE, -1, 6, 7, Integer.MAX_VALUE}) {
            for (int i : new int[] {0, 3, 5}) {
                for (int l = -1; l <= 8; l++) {
                    int by = l;
                    busy.keeps("follows(" + i + ", " + out + ", " + l + ")", x -> x.follows(i, out, by), -1);
                    busy.keeps("follows(" + out + ", " + i + ", " + l + ")", x -> x.follows(out, i, by), -1);
                }
            }
        }
        for (int out : OUT) {
            for (int i : new int[] {0, 3, 5}) {
                for (int j : new int[] {0, 3, 5}) busy.keeps("follows(" + i + ", " + j + ", " + out + ")", x -> x.follows(i, j, out), -1);
            }
        }
        for (int l = 0; l < 8; l++) {
            int by = l;
            busy.keeps("follows(3, 0, " + l + ")", x -> x.follows(3, 0, by), -2);
            busy.keeps("follows(5, 3, " + l + ")", x -> x.follows(5, 3, by), -2);
            busy.keeps("follows(2, 5, " + l + ")", x -> x.follows(2, 5, by), 1);
            busy.keeps("follows(5, 0, " + l + ")", x -> x.follows(5, 0, by), 0);
        }
    }
}
