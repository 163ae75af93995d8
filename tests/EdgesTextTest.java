/** Promises 7 to 10 at their edges: a method for each sentence of the document that names one. */
public final class EdgesTextTest {
    private static final String LEAVES = "pqrsTF";
    private static final String OPENING = "![{(";
    private static final String BETWEEN = "&|>";

    public static void main(String[] args) {
        typeOneToEight();
        typeHighestFirst();
        typeFull();
        typeRefused();
        clearAtEachLength();
        everyByteAtFirst();
        everyByteBehindOpening();
        everyByteBehindFirst();
        everyByteBehindSecond();
        everyByteBehindWhole();
        tooEarly();
        noBlanks();
        fortySigns();
        fortyFirstOfEachKind();
        bracketsAreNoSigns();
        twentyOpen();
        twentyFirstOfEachKind();
        closedAreNotOpen();
        bothLimits();
        fullTexts();
        readRefused();
        readEachSentence();
        aboutSigns();
        aboutDepth();
        aboutParts();
        aboutAtoms();
        aboutPlain();
        aboutRefused();
        Due.end();
    }

    private static void reads(String text, int signs) {
        SeenWorlds x = new SeenWorlds();
        Due.is("read of " + text, Due.read(x, 0, text), signs);
        Due.is("THE TEXT is empty then", x.count(2), 0);
        Due.is("SIGNS of " + text, x.about(0, 0), signs);
    }

    /** A text that has a FAULT: nothing changes, neither THE TEXT nor the SENTENCE. */
    private static void fault(String text, int place) {
        SeenWorlds x = Due.with("([q>s)");
        Due.is("read of " + text, Due.read(x, 0, text), -10L - place);
        Due.is("THE TEXT stays, " + text, x.count(2), text.length());
        Due.is("SENTENCE 0 stays, signs, " + text, x.about(0, 0), 4);
        Due.is("SENTENCE 0 stays, atoms, " + text, x.about(0, 3), 10);
        Due.is("SENTENCE 0 stays, parts, " + text, x.about(0, 2), 4);
        Due.is("the same FAULT again, " + text, x.read(0), -10L - place);
        Due.is("THE TEXT has had", x.clear(), text.length());
    }

    /** A SENTENCE of n signs between and n + 1 leaves, as few open at a time as can be: 2 n + 1 SIGNS. */
    private static String chain(int n) {
        if (n == 0) return "p";
        int left = (n - 1) / 2;
        return "(" + chain(left) + "|" + chain(n - 1 - left) + ")";
    }

    // "The lowest n (1 .. 8) bytes of v, the highest of them first, come to THE TEXT: how many it has."
    private static void typeOneToEight() {
        SeenWorlds x = new SeenWorlds();
        int has = 0;
        for (int n = 1; n <= 8; n++) {
            has += n;
            Due.is("type(0, " + n + ")", x.type(0, n), has);
        }
        Due.is("bytes", x.count(2), 36);
        // The bytes above the lowest n don't matter, nor does the sign of v.
        for (int n = 1; n <= 8; n++) {
            x = new SeenWorlds();
            long low = 0;
            for (int k = 1; k < n; k++) low = low << 8 | '!';
            low = low << 8 | 'p';
            Due.is("type of junk and " + n, x.type(n == 8 ? low : low | -1L << 8 * n, n), n);
            Due.is("read of the lowest " + n, x.read(0), n);
        }
    }

    private static void typeHighestFirst() {
        SeenWorlds x = new SeenWorlds();
        Due.is("eight bytes", x.type(0x2821705b71515253L, 8), 8);
        // ( ! p [ : the first byte that can't stand there is at 3.
        Due.is("read in that order", x.read(0), -13);
        x.clear();
        x.type(Long.MIN_VALUE, 8);
        Due.is("the highest bit is the first byte's", x.read(0), -10);
        x.clear();
        x.type(0x2821702671295bffL, 7);
        Due.is("lowest seven, from ! on", x.read(0), -12);
        x.clear();
        x.type(0x7028217026712900L >>> 8, 7);
        x.type(0x707070L, 1);
        Due.is("two typed are one text", x.read(0), -11);
        x.clear();
        x.type(0x28217026L, 4);
        x.type(0x7129L, 2);
        Due.is("a text in two pieces", x.read(0), 4);
    }

    // "200 bytes at most", FULL
    private static void typeFull() {
        for (int n = 1; n <= 8; n++) {
            for (int room = 0; room <= 9; room++) {
                SeenWorlds x = Due.with("[p");
                Due.type(x, Due.times("p", 200 - room));
                Due.is("type of " + n + " with room for " + room, x.type(0x7171717171717171L, n), n <= room ? 200 - room + n : -3);
                Due.is("bytes then", x.count(2), n <= room ? 200 - room + n : 200 - room);
                if (n > room && room > 0) Due.is("what has room still comes", x.type(112, room), 200);
            }
        }
        SeenWorlds x = new SeenWorlds();
        for (int bytes = 1; bytes <= 200; bytes++) Due.is("byte " + bytes, x.type('p', 1), bytes);
        for (int n = 1; n <= 8; n++) Due.is("byte 201, " + n, x.type('p', n), -3);
        Due.is("full", x.clear(), 200);
        Due.is("room again", x.type('p', 1), 1);
    }

    private static SeenWorlds fullText() {
        SeenWorlds x = Due.with("[p", "(q&r)");
        x.see(0, 1, 1);
        Due.type(x, forty() + Due.times("x", 200 - forty().length()));
        return x;
    }

    /** 40 SIGNS in 78 bytes: no text that is a SENTENCE is longer. */
    private static String forty() {
        return "!" + chain(19);
    }

    private static void typeRefused() {
        Whole full = new Whole("full", EdgesTextTest::fullText);
        for (int n = 1; n <= 8; n++) {
            int bytes = n;
            full.keeps("type(.., " + n + ")", x -> x.type(0x7070707070707070L, bytes), -3);
        }
        Whole some = new Whole("some", EdgesTextTest::someText);
        for (int n : new int[] {Integer.MIN_VALUE, -8, -1, 0, 9, 10, 16, 64, Integer.MAX_VALUE}) {
            full.keeps("BAD before FULL, type(.., " + n + ")", x -> x.type(112, n), -1);
            some.keeps("type(.., " + n + ")", x -> x.type(112, n), -1);
        }
        some.changes("type(112, 1)", x -> x.type(112, 1), 3);
    }

    private static SeenWorlds someText() {
        SeenWorlds x = Due.with("[p", "(q&r)");
        Due.type(x, "{q");
        return x;
    }

    // "THE TEXT is empty: how many bytes it had."
    private static void clearAtEachLength() {
        for (int bytes = 0; bytes <= 200; bytes++) {
            SeenWorlds x = new SeenWorlds();
            Due.type(x, Due.times("(", bytes));
            Due.is("clear of " + bytes, x.clear(), bytes);
            Due.is("clear again", x.clear(), 0);
            Due.is("empty", x.count(2), 0);
            Due.is("nothing to read", x.read(0), -10);
        }
        Whole none = new Whole("none", () -> Due.with("[p", "(q&r)"));
        none.keeps("clear()", x -> x.clear(), 0);
    }

    /** Each byte behind a text that could go on: those that go on and those that are a FAULT. */
    private static void everyByte(String before, String ending, String opening, int signs) {
        for (int b = 0; b < 256; b++) {
            String text = before + (char) b;
            if (b < 128 && ending.indexOf((char) b) >= 0) reads(text, signs);
            else if (b < 128 && opening.indexOf((char) b) >= 0) fault(text, text.length());
            else fault(text, before.length());
        }
    }

    // "the place of the first byte that can't stand there"
    private static void everyByteAtFirst() {
        everyByte("", LEAVES, OPENING, 1);
    }

    private static void everyByteBehindOpening() {
        everyByte("!", LEAVES, OPENING, 2);
        everyByte("[", LEAVES, OPENING, 2);
        everyByte("{", LEAVES, OPENING, 2);
        everyByte("!![{", LEAVES, OPENING, 5);
        everyByte("(", "", LEAVES + OPENING, 0);
        everyByte("[(", "", LEAVES + OPENING, 0);
        everyByte("(p&", "", LEAVES + OPENING, 0);
        everyByte("(p|", "", LEAVES + OPENING, 0);
        everyByte("(p>", "", LEAVES + OPENING, 0);
        everyByte("(p>![", "", LEAVES + OPENING, 0);
        everyByte("((p&q)>", "", LEAVES + OPENING, 0);
    }

    private static void everyByteBehindFirst() {
        for (String first : new String[] {"p", "T", "F", "!p", "[{s", "(p&q)", "!(p>[q)"}) {
            everyByte("(" + first, "", BETWEEN, 0);
            everyByte("!(" + first, "", BETWEEN, 0);
            everyByte("(q|(" + first, "", BETWEEN, 0);
        }
    }

    private static void everyByteBehindSecond() {
        for (String second : new String[] {"p", "T", "F", "!p", "{s", "(p&q)", "!(p>q)"}) {
            int signs = second.replace("(", "").replace(")", "").length();
            everyByte("(q&" + second, ")", "", 2 + signs);
            everyByte("![(q>" + second, ")", "", 4 + signs);
            // The ) of an inner one leaves the outer one open.
            everyByte("((q|" + second, "", ")", 0);
        }
    }

    // "a byte behind a whole one"
    private static void everyByteBehindWhole() {
        for (String whole : new String[] {"p", "T", "F", "!p", "[{q", "(p&q)", "[(p>!q)", "!!!s", forty()}) everyByte(whole, "", "", 0);
        fault("pp", 1);
        fault("(p&q)(p&q)", 5);
        fault("pxxxxx", 1);
    }

    // "the text's length, if it ends too early"
    private static void tooEarly() {
        fault("", 0);
        String whole = "((!p&[{q)>(T|!(r>F)))";
        for (int length = 0; length < whole.length(); length++) fault(whole.substring(0, length), length);
        reads(whole, 13);
        String long40 = forty();
        for (int length = 0; length < long40.length(); length++) fault(long40.substring(0, length), length);
        Due.is("the longest one has", long40.length(), 78);
        reads(long40, 40);
    }

    // "without blanks"
    private static void noBlanks() {
        String whole = "(!p>[q)";
        for (int place = 0; place <= whole.length(); place++) {
            for (String blank : new String[] {" ", "\t", "\n", "\r", "\0"}) {
                fault(whole.substring(0, place) + blank + whole.substring(place), place);
            }
        }
    }

    // "40 SIGNS at most"
    private static void fortySigns() {
        reads(chain(19), 39);
        for (String prefix : new String[] {"!", "[", "{"}) {
            reads(prefix + chain(19), 40);
            // The 41st SIGN is the last leaf.
            String text = prefix + prefix + chain(19);
            fault(text, text.lastIndexOf('p'));
            text = prefix + "(" + chain(18) + "&" + prefix + prefix + "p)";
            fault(text, text.lastIndexOf('p') - 1);
            text = prefix + "(" + chain(18) + "&" + prefix + "p)";
            fault(text, text.lastIndexOf('p'));
            reads(prefix + "(" + chain(18) + "&p)", 40);
            reads("(" + chain(18) + "&" + prefix + "p)", 40);
        }
    }

    /** 40 SIGNS, one more byte: where it is a SIGN, it is the FAULT, were it right else or not. */
    private static void fortyFirstOfEachKind() {
        // Behind a sign between: a leaf, a prefix, what could not stand there at all.
        String due1 = "!(" + chain(18) + "&";
        String due = "!" + due1;
        Due.is("SIGNS up to there", signs(due), 40);
        for (int b = 0; b < 256; b++) {
            String text = due + (char) b;
            fault(text, b == '(' ? text.length() : due.length());
            if (b == 'p' || b == 'F') fault(due1 + (char) b, (due1 + (char) b).length());
        }
        // Behind a whole first one: a sign between.
        String behind = "![(" + chain(18) + "&p";
        Due.is("SIGNS up to there", signs(behind), 41);
        fault(behind, behind.length() - 1);
        String first = "!((" + chain(18) + "|p)";
        Due.is("SIGNS up to there", signs(first), 40);
        for (int b = 0; b < 256; b++) fault(first + (char) b, first.length());
        // Behind a whole second one: a ) alone.
        String second = "!(" + chain(18) + "|p";
        Due.is("SIGNS up to there", signs(second), 40);
        for (int b = 0; b < 256; b++) {
            if (b == ')') reads(second + ")", 40);
            else fault(second + (char) b, second.length());
        }
    }

    private static int signs(String text) {
        return text.replace("(", "").replace(")", "").length();
    }

    // "(all bytes but brackets ( ))"
    private static void bracketsAreNoSigns() {
        // 40 SIGNS and then as many ( as may be open: none of them is too many SIGNS.
        String due = "!!(" + chain(18) + "&";
        for (int more = 0; more <= 17; more++) fault(due + Due.times("(", more), due.length() + more);
        fault(due + Due.times("(", 17) + "p", due.length() + 17);
        fault(due + "()", due.length() + 1);
        fault(due + "((p", due.length() + 2);
        // [ ] { } are no brackets ( ): [ and { are SIGNS.
        reads("[p", 2);
        reads("{p", 2);
        fault("[p]", 2);
        fault("{p}", 2);
    }

    // "20 ( or prefixes open at a time"
    private static void twentyOpen() {
        for (String prefix : new String[] {"!", "[", "{", "![", "{!", "[{"}) {
            for (String leaf : new String[] {"p", "T"}) reads(Due.times(prefix, 20 / prefix.length()) + leaf, 21);
        }
        fault(Due.times("(", 20), 20);
        fault(Due.times("(", 20) + "p", 21);
        reads(Due.times("(", 13) + Due.times("!", 7) + "p" + Due.times("&p)", 13), 34);
        reads(Due.times("!", 7) + Due.times("(", 13) + "p" + Due.times("&p)", 13), 34);
        reads(Due.times("(p&", 19) + "p" + Due.times(")", 19), 39);
        fault(Due.times("(p&", 20) + "p" + Due.times(")", 20), 60);
        // All 20 open in the second one: the ( stays open there.
        reads("(p&" + Due.times("!", 19) + "p)", 22);
        reads("(" + Due.times("!", 19) + "p&p)", 22);
        // 20 (, the fewest SIGNS that may stand with these are 41.
        String twenty = Due.times("(", 20) + "p" + Due.times("&p)", 20);
        fault(twenty, 20 + 1 + 3 * 19 + 1);
    }

    // "a 21st opened one"
    private static void twentyFirstOfEachKind() {
        String[] opened = {Due.times("!", 20), Due.times("[", 20), Due.times("{", 20), Due.times("(", 20), Due.times("!(", 10), Due.times("(p&", 20), Due.times("([", 10)};
        for (String before : opened) {
            for (int k = 0; k < OPENING.length(); k++) {
                String text = before + OPENING.charAt(k);
                fault(text, before.length());
                fault(text + "p", before.length());
                fault(text + OPENING, before.length());
            }
            String nineteen = before.substring(before.startsWith("(p&") ? 3 : 1);
            if (before.startsWith("!(") || before.startsWith("([")) continue;
            for (int k = 0; k < OPENING.length(); k++) fault(nineteen + OPENING.charAt(k), nineteen.length() + 1);
        }
        // Everywhere in a text: behind a first one, too.
        for (int k = 0; k < OPENING.length(); k++) {
            String text = "(p&" + Due.times("!", 19) + OPENING.charAt(k) + "p";
            fault(text, 3 + 19);
            text = "((p&q)&" + Due.times("[", 19) + OPENING.charAt(k) + "p";
            fault(text, 7 + 19);
        }
    }

    // "open at a time"
    private static void closedAreNotOpen() {
        reads("(" + Due.times("!", 18) + "p&" + Due.times("[", 19) + "p)", 40);
        reads("((p&q)&(" + Due.times("!", 18) + "p|q))", 25);
        reads("(((" + Due.times("!", 17) + "p&q)|q)>" + Due.times("!", 13) + "p)", 37);
        reads("(!(p&q)&" + Due.times("!", 19) + "p)", 25);
        fault("(!(p&q)&" + Due.times("!", 20) + "p)", 8 + 19);
        // Many ( one behind the other: two open at a time, none too many.
        StringBuilder text = new StringBuilder("(p&q)");
        for (int k = 0; k < 5; k++) text.insert(0, '(').append("|(!p>q))");
        reads(text.toString(), 3 + 5 * 5);
    }

    /** The first byte that is too much by either is the FAULT. */
    private static void bothLimits() {
        String due = "(" + Due.times("!", 18) + "p&" + Due.times("!", 19);
        Due.is("SIGNS up to there", signs(due), 39);
        fault(due + "!p)", due.length());
        fault(due + "(p", due.length());
        reads(due + "p)", 40);
        // 40 SIGNS and 20 open: the next is both the 41st and the 21st.
        String both = "(!" + Due.times("!", 17) + "p&(p>" + Due.times("!", 18);
        Due.is("SIGNS up to there", signs(both), 40);
        for (int k = 0; k < OPENING.length(); k++) fault(both + OPENING.charAt(k) + "p", both.length());
        fault(both + "p", both.length());
        fault(both, both.length());
    }

    /** No SENTENCE has 200 bytes: a full text always has a FAULT, and it is told as any other. */
    private static void fullTexts() {
        faultOfFull("", 1);
        faultOfFull("x", 0);
        faultOfFull("(p&p)", 5);
        faultOfFull(forty(), 78);
        faultOfFull(Due.times("!", 20), 21);
        faultOfFull(Due.times("(", 200), 20);
        faultOfFull(Due.times("(p&", 19), 58);
    }

    private static void faultOfFull(String begin, int place) {
        String text = begin + Due.times("p", 200 - begin.length());
        Due.is("bytes of a full text", text.length(), 200);
        fault(text, place);
    }

    private static void readRefused() {
        Whole some = new Whole("some", EdgesTextTest::someText);
        Whole none = new Whole("none", () -> Due.with("[p", "(q&r)"));
        Whole full = new Whole("full", EdgesTextTest::fullText);
        for (int i : new int[] {Integer.MIN_VALUE, -1, 6, 7, 32, Integer.MAX_VALUE}) {
            some.keeps("read(" + i + ")", x -> x.read(i), -1);
            none.keeps("BAD before FAULT, read(" + i + ")", x -> x.read(i), -1);
            full.keeps("BAD before FAULT, read(" + i + ")", x -> x.read(i), -1);
        }
        for (int i = 0; i < 6; i++) {
            int to = i;
            none.keeps("read(" + i + ")", x -> x.read(to), -10);
            full.keeps("read(" + i + ")", x -> x.read(to), -10 - 78);
            some.changes("read(" + i + ")", x -> x.read(to), 2);
        }
        // What stands in THE TEXT after a FAULT goes on to be typed.
        SeenWorlds x = new SeenWorlds();
        Due.type(x, "(p&");
        Due.is("read of (p&", x.read(0), -13);
        Due.type(x, "q)");
        Due.is("read of (p&q)", x.read(0), 3);
    }

    // "SENTENCES 0 .. 5"
    private static void readEachSentence() {
        String[] texts = {"p", "!q", "(p&q)", "[(r|s)", "{(p>!F)", "!![{!T"};
        for (int i = 0; i < 6; i++) {
            SeenWorlds x = new SeenWorlds();
            Due.is("read(" + i + ")", Due.read(x, i, texts[i]), signs(texts[i]));
            for (int j = 0; j < 6; j++) {
                Due.is("SIGNS of " + j, x.about(j, 0), j == i ? signs(texts[i]) : 1);
                Due.is("ATOMS of " + j, x.about(j, 3), j != i ? 0 : new int[] {1, 2, 3, 12, 1, 0}[i]);
            }
        }
        SeenWorlds x = Due.with(texts);
        for (int i = 0; i < 6; i++) Due.is("SIGNS of all, " + i, x.about(i, 0), signs(texts[i]));
        Due.is("read once more", Due.read(x, 5, "s"), 1);
        Due.is("a longer one before", x.about(5, 1), 0);
        Due.is("read T", Due.read(x, 5, "T"), 1);
        Due.is("no atoms then", x.about(5, 3), 0);
    }

    private static void about(String text, int what, int want) {
        Due.is("about " + what + " of " + text, Due.with(text).about(0, what), want);
    }

    // "0 SIGNS"
    private static void aboutSigns() {
        about("p", 0, 1);
        about("(p&q)", 0, 3);
        about(Due.times("!", 20) + "p", 0, 21);
        for (int n = 0; n <= 19; n++) about(chain(n), 0, 2 * n + 1);
        about(forty(), 0, 40);
    }

    // "DEPTH: how many [ and { lie in one another at most."
    private static void aboutDepth() {
        for (int depth = 0; depth <= 20; depth++) {
            about(Due.times("[", depth) + "p", 1, depth);
            about(Due.times("{", depth) + "F", 1, depth);
            about(Due.times("!", 20 - depth) + Due.times("{", depth) + "p", 1, depth);
        }
        about("([p&[p)", 1, 1);
        about("([p&{[q)", 1, 2);
        about("({[q&[p)", 1, 2);
        about("[([p&{{q)", 1, 3);
        about("[!{![!p", 1, 3);
        about("(([p&[q)|([r>[s))", 1, 1);
        about("(p&(q|!(r>s)))", 1, 0);
        about("({p>" + Due.times("[", 19) + "q)", 1, 19);
    }

    // "PARTS: how many unlike parts it has, itself too (of the same text)."
    private static void aboutParts() {
        for (String leaf : new String[] {"p", "q", "r", "s", "T", "F"}) about(leaf, 2, 1);
        about("!p", 2, 2);
        about("(p&p)", 2, 2);
        about("((p&p)&(p&p))", 2, 3);
        about("((p&q)&(q&p))", 2, 5);
        about("((p&q)|(p&q))", 2, 4);
        about("((p&q)>(p|q))", 2, 5);
        about("(!p&(!p&!p))", 2, 4);
        about("([p&{p)", 2, 4);
        about("(T&F)", 2, 3);
        about(Due.times("!", 20) + "p", 2, 21);
        about("(" + Due.times("!", 18) + "p&" + Due.times("!", 19) + "p)", 2, 21);
        about(unlike(), 2, 40);
        about(unlike(), 0, 40);
        // Each half is the same text once more.
        String text = "p";
        for (int k = 1; k <= 4; k++) {
            text = "(" + text + "&" + text + ")";
            about(text, 2, k + 1);
            about(text, 0, (2 << k) - 1);
        }
    }

    /** 40 SIGNS, and no part stands twice. */
    private static String unlike() {
        return "!!!((" + Due.times("!", 9) + "p&" + Due.times("[", 9) + "q)|((!!!r>{{{s)&(!T|!F)))";
    }

    // "its ATOMS as bits"
    private static void aboutAtoms() {
        for (int atoms = 0; atoms < 16; atoms++) {
            String text = "T";
            for (int a = 0; a < 4; a++) if ((atoms >> a & 1) == 1) text = "(!" + "pqrs".charAt(a) + "&" + text + ")";
            about(text, 3, atoms);
            about("[" + text, 3, atoms);
            about("(" + text + ">" + text + ")", 3, atoms);
        }
        about("T", 3, 0);
        about("F", 3, 0);
        about("(s|s)", 3, 8);
        about("(p&F)", 3, 1);
    }

    // "PLAIN ones have none."
    private static void aboutPlain() {
        for (String text : new String[] {"p", "T", "F", "!!s", "(p&(q>!r))", forty()}) about(text, 4, 1);
        for (String text : new String[] {"[p", "{F", "!!{s", "(p&(q>![r))", "({p|q)", "[" + chain(19), "{[T"}) about(text, 4, 0);
    }

    private static void aboutRefused() {
        Whole some = new Whole("some", EdgesTextTest::someText);
        for (int out : new int[] {Integer.MIN_VALUE, -1, 6, 7, Integer.MAX_VALUE}) {
            for (int in = -1; in <= 5; in++) {
                int what = in;
                some.keeps("about(" + out + ", " + in + ")", x -> x.about(out, what), -1);
            }
        }
        for (int out : new int[] {Integer.MIN_VALUE, -1, 5, 6, Integer.MAX_VALUE}) {
            for (int in = 0; in < 6; in++) {
                int i = in;
                some.keeps("about(" + in + ", " + out + ")", x -> x.about(i, out), -1);
            }
        }
        int[] want = {2, 1, 2, 1, 0};
        for (int k = 0; k < 5; k++) {
            int what = k;
            some.keeps("about(0, " + k + ")", x -> x.about(0, what), want[k]);
        }
        some.keeps("about(5, 0)", x -> x.about(5, 0), 1);
    }
}
