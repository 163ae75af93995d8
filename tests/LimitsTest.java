/** Any numbers in any state: no call throws, none that is refused changes anything. */
public final class LimitsTest {
    private static final int[] ODD = {Integer.MIN_VALUE, -1000, -9, -2, -1, 0, 1, 2, 3, 4, 5, 6, 7, 8, 9, 10, 31, 32, 33, 255, 256, 1023, 1024, 1 << 30, Integer.MAX_VALUE};
    private static final int CALLS = 25;

    private long chance = 5;
    private SeenWorlds x;
    private String made = "";

    public static void main(String[] args) {
        LimitsTest test = new LimitsTest();
        for (int run = 0; run < 1200; run++) {
            test.begin(run);
            // State is asked twice by nine calls: so an object gets fewer than 512 calls.
            for (int call = 0; call < 24; call++) test.odd();
        }
        test.everyLengthOfText();
        Due.end();
    }

    private int below(int n) {
        chance = chance * 6364136223846793005L + 1442695040888963407L;
        return (int) ((chance >>> 33) % n);
    }

    private int any() {
        return below(4) == 0 ? ODD[below(ODD.length)] : below(8);
    }

    private void begin(int run) {
        x = new SeenWorlds();
        x.worlds(1 + run % 8);
        Due.read(x, 0, Due.times("[", 20) + "p");
        Due.read(x, 1, "!" + Due.times("(p&", 19) + "s" + Due.times(")", 19));
        Due.read(x, 2, "[{[{[{[{[p");
        Due.read(x, 3, "({(p&q)&([(p|s)&{{!r))");
        Due.read(x, 4, Due.times("!", 20) + "q");
    }

    /** Calls something with any numbers; an answer that refuses leaves all that can be asked as it was. */
    private void odd() {
        String before = state();
        long answer;
        try {
            answer = ask(below(CALLS), any(), any(), any());
        } catch (RuntimeException | StackOverflowError thrown) {
            System.out.println(thrown);
            Due.is(made + " threw", 1, 0);
            return;
        }
        boolean refused = answer < 0 && answer != -9;
        if (refused) Due.is(made + " changed nothing", before.equals(state()) ? 0 : 1, 0);
    }

    /** What can be asked of the net, THE TEXT and THE TRACE. */
    private String state() {
        StringBuilder state = new StringBuilder();
        for (int what = 0; what < 7; what++) state.append(x.count(what)).append(' ');
        return state.append(x.trace()).append(' ').append(x.sorts()).toString();
    }

    private long ask(int call, int a, int b, int c) {
        made = "call " + call + " with " + a + ", " + b + ", " + c;
        switch (call) {
            case 0: return below(9) == 0 ? x.worlds(a) : x.worlds(99);
            case 1: return x.see(a, b, c);
            case 2: return x.atom(a, b);
            case 3: return x.seen(a, b);
            case 4: return x.sorts();
            case 5: return x.type(a * 0x1234567L, b);
            case 6: return x.clear();
            case 7: return x.read(a);
            case 8: return x.about(a, b);
            case 9: return x.holds(a, b);
            case 10: return x.sure(a, b);
            case 11: return x.logic(a, b, c);
            case 12: return x.falls(a, b, c);
            case 13: return x.follows(a, b, c);
            case 14: return x.heaps(a);
            case 15: return x.alike(a, b, c);
            case 16: return x.apart(a, b, c);
            case 17: return x.growing();
            case 18: return x.grows(a);
            case 19: return x.shown(a, b);
            case 20: return below(9) == 0 ? x.tell(a) : x.tell(-1);
            case 21: return x.known(a);
            case 22: return x.steps(a, b);
            case 23: return x.count(a);
            default: return x.trace();
        }
    }

    /** Texts of each length that only open, and such that begin well: none is too long for the reader. */
    private void everyLengthOfText() {
        String[] repeated = {"(", "!", "[", "{", "p", ")", "(p&", "!(", "((p|q)>", "\u00ff"};
        for (String part : repeated) {
            for (int n = 1; n * part.length() <= 200; n += 7) {
                SeenWorlds y = new SeenWorlds();
                int answer = Due.read(y, 0, Due.times(part, n));
                boolean fault = answer <= -10 && answer >= -10 - 200;
                Due.is(n + " times " + part, fault || part.equals("p") && n == 1 ? 1 : 0, 1);
            }
        }
    }
}
