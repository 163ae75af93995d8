import java.util.Objects;

/** What every test of the project uses: due answers are compared, and texts come to SENTENCES. */
public final class Due {
    private static final int MOST_TOLD = 100;

    private static int asked = 0;
    private static int wrong = 0;

    private Due() {
    }

    /** Prints a call whose answer is not the one that is due. */
    public static void is(String call, long got, long want) {
        asked++;
        if (got == want) return;
        wrong++;
        if (wrong <= MOST_TOLD) System.out.println(call + " answered " + got + ", due is " + want);
    }

    public static boolean allRight() {
        return wrong == 0;
    }

    /** Types a text behind what stands in THE TEXT, eight bytes at a time. */
    public static void type(SeenWorlds x, String text) {
        Objects.requireNonNull(text);
        for (int from = 0; from < text.length(); from += 8) {
            int n = Math.min(8, text.length() - from);
            long v = 0;
            for (int k = 0; k < n; k++) v = v << 8 | text.charAt(from + k) & 255;
            x.type(v, n);
        }
    }

    /** Makes a text SENTENCE i: what read() answered. */
    public static int read(SeenWorlds x, int i, String text) {
        x.clear();
        type(x, text);
        return x.read(i);
    }

    /** Makes some SENTENCES at once, from 0 on. */
    public static SeenWorlds with(String... texts) {
        SeenWorlds x = new SeenWorlds();
        for (int i = 0; i < texts.length; i++) {
            if (read(x, i, texts[i]) < 0) is("read of " + texts[i], -1, 0);
        }
        return x;
    }

    /** Pairs such as "01 12": 0 SEES 1, 1 SEES 2. */
    public static void see(SeenWorlds x, String pairs) {
        for (String pair : pairs.split(" ")) {
            if (!pair.isEmpty()) x.see(pair.charAt(0) - '0', pair.charAt(1) - '0', 1);
        }
    }

    public static String times(String text, int n) {
        return text.repeat(n);
    }

    /** Tells the end: exit code 1 if an answer was not due, or nothing was asked. */
    public static void end() {
        System.out.println(wrong == 0 ? asked + " answers are as due" : wrong + " of " + asked + " answers are not as due");
        if (wrong != 0 || asked == 0) System.exit(1);
    }
}
