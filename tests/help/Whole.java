import java.util.function.Supplier;
import java.util.function.ToLongFunction;

/** Objects in some state, and all that can be asked of them: so it is seen whether a call changed anything. */
public final class Whole {
    private final String name;
    private final Supplier<SeenWorlds> made;
    private final String untouched;

    /** A state, told by how an object comes to it (200 calls at most: asking for all takes some 250). */
    public Whole(String name, Supplier<SeenWorlds> made) {
        this.name = name;
        this.made = made;
        this.untouched = of(made.get());
    }

    /** A call is answered so in this state, and nothing changes by it. */
    public void keeps(String call, ToLongFunction<SeenWorlds> asked, long due) {
        SeenWorlds x = made.get();
        Due.is(name + ": " + call, asked.applyAsLong(x), due);
        Due.is(name + ": " + call + " changed nothing", of(x).equals(untouched) ? 0 : 1, 0);
    }

    /** A call is answered so in this state, and something changes by it: else keeps() would show nothing. */
    public void changes(String call, ToLongFunction<SeenWorlds> asked, long due) {
        SeenWorlds x = made.get();
        Due.is(name + ": " + call, asked.applyAsLong(x), due);
        Due.is(name + ": " + call + " changed something", of(x).equals(untouched) ? 0 : 1, 1);
    }

    /** All that can be asked; the object is of no use then, for THE TEXT is read at last. */
    public static String of(SeenWorlds x) {
        StringBuilder all = new StringBuilder();
        all.append("trace ").append(x.trace()).append(" count");
        for (int what = 0; what < 7; what++) all.append(' ').append(x.count(what));
        all.append(" seen");
        for (int w = 0; w < 8; w++) all.append(' ').append(x.seen(0, w));
        all.append(" net ").append(x.sorts()).append(' ').append(x.growing());
        for (int sort = 0; sort < 4; sort++) all.append(' ').append(x.heaps(sort));
        for (int i = 0; i < 6; i++) sentence(all, x, i);
        // What the bytes of THE TEXT are is seen by what is read alone.
        all.append(" read ").append(x.read(5));
        sentence(all, x, 5);
        return all.append(" clear ").append(x.clear()).toString();
    }

    private static void sentence(StringBuilder all, SeenWorlds x, int i) {
        all.append(" sentence ").append(i).append(':');
        for (int what = 0; what < 5; what++) all.append(' ').append(x.about(i, what));
        for (int sort = 0; sort < 4; sort++) all.append(' ').append(x.holds(i, sort));
        for (int w = 0; w < 8; w++) all.append(' ').append(x.steps(i, w));
        all.append(' ').append(x.known(i)).append(' ').append(x.grows(i));
        all.append(' ').append(x.shown(i, 0)).append(' ').append(x.shown(i, 1));
        all.append(' ').append(x.logic(i, 0, 1)).append(' ').append(x.logic(i, 4, 2)).append(' ').append(x.logic(i, 7, 5));
    }
}
