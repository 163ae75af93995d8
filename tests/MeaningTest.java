import java.util.ArrayList;
import java.util.List;

/**
 * What the parts of the document mean for one another: a LAW of a LOGIC is SURE on each net of the SORTS
 * of that LOGIC, and (few parts need few WORLDS) what is SURE on all small ones is a LAW; what is SHOWN
 * GROWING holds all over each GROWING net; ALIKE WORLDS agree on each SENTENCE.
 */
public final class MeaningTest {
    /** SORTS that a net of a LOGIC must be of: itself 1, back 2, on 4, some 8. */
    private static final int[] SORTS_OF = {0, 8, 1, 4, 5, 2, 3, 7};

    public static void main(String[] args) {
        List<String> plain = new ArrayList<>();
        for (String s : new String[] {"p", "!p", "T", "F", "(p>p)"}) plain.add(s);
        List<String> modal = new ArrayList<>(plain);
        for (String s : new String[] {"p", "!p", "F"}) {
            modal.add("[" + s);
            modal.add("{" + s);
        }
        List<String> asked = new ArrayList<>();
        for (String a : modal) for (String b : modal) asked.add("(" + a + ">" + b + ")");
        for (String a : modal) asked.add("[" + a);
        for (int from = 0; from + 6 <= asked.size(); from += 6) laws(asked.subList(from, from + 6));
        shownGoesOn();
        alikeAgree();
        Due.end();
    }

    private static SeenWorlds withAll(List<String> texts) {
        return Due.with(texts.toArray(new String[0]));
    }

    private static void net(SeenWorlds x, int n, int pairs) {
        x.worlds(n);
        for (int k = 0; k < n * n; k++) if ((pairs >> k & 1) == 1) x.see(k / n, k % n, 1);
    }

    private static void laws(List<String> texts) {
        SeenWorlds x = withAll(texts);
        int[][] law = new int[6][8];
        for (int i = 0; i < 6; i++) for (int l = 0; l < 8; l++) law[i][l] = x.logic(i, l, 1);
        int[][] sure = new int[6][8];
        for (int[] row : sure) java.util.Arrays.fill(row, 1);
        for (int n = 1; n <= 3; n++) {
            for (int pairs = 0; pairs < 1 << n * n; pairs++) {
                x = withAll(texts);
                net(x, n, pairs);
                int sorts = x.sorts();
                for (int i = 0; i < 6; i++) {
                    int is = x.sure(i, 0);
                    for (int l = 0; l < 8; l++) if ((SORTS_OF[l] & ~sorts) == 0) sure[i][l] &= is;
                }
            }
        }
        for (int i = 0; i < 6; i++) {
            for (int l = 0; l < 8; l++) {
                // {T > [{T and their like need no more than three WORLDS either, as no must lies in another.
                boolean deep = texts.get(i).startsWith("[[") || texts.get(i).startsWith("[{");
                if (!deep || law[i][l] == 1) Due.is(texts.get(i) + " law of " + l, law[i][l], sure[i][l]);
            }
        }
    }

    private static void shownGoesOn() {
        String[] texts = {"(!!p>p)", "(p|!p)", "(p>!!p)", "(!p|!!p)", "!!(p|!p)", "(((p>q)>p)>p)", "(!(p|q)>(!p&!q))", "((p>q)|(q>p))",
            "(!(p&q)>(!p|!q))", "((p>(q>p))&T)", "(((p|q)&!p)>q)", "((p>q)>(!p|q))"};
        for (String text : texts) {
            int shown = Due.with(text).shown(0, 0);
            int everywhere = 1;
            for (int pairs = 0; pairs < 512; pairs++) {
                SeenWorlds x = Due.with(text);
                net(x, 3, pairs);
                for (int k = 0; k < 64; k++) {
                    x.atom(0, k & 7);
                    x.atom(1, k >> 3);
                    int where = x.grows(0);
                    if (where >= 0 && where != 7) everywhere = 0;
                }
            }
            Due.is(text + " shown", shown, everywhere);
        }
    }

    private static void alikeAgree() {
        String[] texts = {"[p", "{[p", "[{!p", "{({p&{!p)", "[[[F", "({[F&p)"};
        for (int pairs = 0; pairs < 512; pairs += 3) {
            for (int sort = 0; sort < 4; sort++) {
                SeenWorlds x = Due.with(texts);
                net(x, 3, pairs);
                x.atom(0, pairs % 8);
                for (int a = 0; a < 3; a++) {
                    for (int b = 0; b < 3; b++) agree(x, a, b, sort);
                }
            }
        }
    }

    /** No SENTENCE of less DEPTH than they are TOLD APART by HOLDS at just one of both. */
    private static void agree(SeenWorlds x, int a, int b, int sort) {
        int apart = x.apart(a, b, sort);
        Due.is("alike and not apart", x.alike(a, b, sort), apart == -9 ? 1 : 0);
        for (int i = 0; i < 6; i++) {
            int where = x.holds(i, sort);
            boolean tells = (where >> a & 1) != (where >> b & 1);
            if (tells) Due.is("told apart by " + i, apart != -9 && apart <= x.about(i, 1) ? 1 : 0, 1);
        }
    }
}
