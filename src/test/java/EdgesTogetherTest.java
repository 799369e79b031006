import java.util.ArrayList;
import java.util.Arrays;
import java.util.List;

/**
 * REFUSALS in the order in which each promise tells them: every call with every edge of each of its
 * arguments beside every edge of the others, on a new object, one of some size and a full one, held
 * against the other telling of the document in NaiveSeats.
 */
public final class EdgesTogetherTest {
    private static final int CALLS = 512;
    private static final int MIN = Integer.MIN_VALUE;
    private static final int MAX = Integer.MAX_VALUE;

    private final String world;
    private final Object[][] calls;
    private final int placesLast;
    private final int personsLast;
    private final int rightsLast;
    private final int textsLast;
    private final int petitionsLast;
    private final int linesLast;
    private final int now;
    private RottenSeats x;
    private NaiveSeats m;
    private int used;

    private EdgesTogetherTest(String world, Object[][] calls) {
        this.world = world;
        this.calls = calls;
        begin();
        placesLast = x.count(1) - 1;
        personsLast = Math.max(x.count(3) - 1, world.equals("some") ? 3 : -1);
        rightsLast = x.count(4) - 1;
        textsLast = x.count(5) - 1;
        petitionsLast = x.count(6) - 1;
        linesLast = x.count(8) - 1;
        now = x.count(0);
        Due.due("refusals of the world " + world, World.refusals(x), 0);
    }

    public static void main(String[] args) {
        Due.says("(the call answers the number, the first that fits in the order in which it tells them; "
                + "nothing changes but how many there were)");
        Object[][][] worlds = {{}, World.someCalls(), World.fullCalls()};
        String[] names = {"new", "some", "full"};
        for (int i = 0; i < worlds.length; i++) {
            new EdgesTogetherTest(names[i], worlds[i]).all();
        }
        Due.end();
    }

    private void begin() {
        x = new RottenSeats();
        m = new NaiveSeats();
        World.tell(x, calls);
        World.tell(m, calls);
        used = calls.length;
    }

    private void same(Object... call) {
        if (used >= CALLS - 1) {
            begin();
        }
        used++;
        int got = World.tell(x, call);
        int want = World.tell(m, call);
        Due.due(world + ": " + Arrays.toString(call), got, want);
        counts(call);
    }

    /** How many refusals there were is asked when the last call of a run is left. */
    private void counts(Object... call) {
        if (used == CALLS - 1) {
            int what = 11 + Math.abs(Arrays.hashCode(call)) % 6;
            Due.due(world + ": count(" + what + ")", x.count(what), m.count(what));
            used++;
        }
    }

    /** Each argument is one int of a row of them; each of these beside each of the others. */
    private void each(String name, int[]... edges) {
        List<Object[]> rows = new ArrayList<>();
        rows.add(new Object[] {name});
        for (int[] edge : edges) {
            List<Object[]> longer = new ArrayList<>();
            for (Object[] row : rows) {
                for (int v : edge) {
                    Object[] more = Arrays.copyOf(row, row.length + 1);
                    more[row.length] = v;
                    longer.add(more);
                }
            }
            rows = longer;
        }
        for (Object[] row : rows) {
            same(row);
        }
    }

    private static int[] edges(int least, int greatest) {
        int[] of = {MIN, least - 1, least, greatest, greatest + 1, MAX};
        return Arrays.stream(of).distinct().toArray();
    }

    /** The same without the ends of an int, where there are many arguments. */
    private static int[] near(int least, int greatest) {
        return Arrays.stream(new int[] {least - 1, least, greatest, greatest + 1}).distinct().toArray();
    }

    private void all() {
        places();
        persons();
        texts();
        sales();
        lots();
        lines();
        sets();
        knots();
        elections();
    }

    private void places() {
        each("days", new int[] {MIN, -1, 0, MAX, 2001 - now, 2001});
        each("days", new int[] {1, 1, 1, 1999 - now, 1, 1});
        begin();
        each("place", edges(0, 2), edges(-1, 5));
        begin();
        each("roll", edges(0, placesLast), edges(0, 1), edges(0, now), near(0, 9999), near(0, 999));
        begin();
        for (boolean wrong : new boolean[] {false, true}) {
            for (int j : edges(0, 2000)) {
                for (int k : edges(0, 2000)) {
                    for (int place : edges(0, placesLast)) {
                        for (int what : edges(0, 1)) {
                            same("number", place, what, j, k, wrong);
                        }
                    }
                }
            }
        }
        each("weigh", edges(0, 1), edges(0, 99));
        each("list", edges(0, placesLast), edges(0, 2000), edges(0, 2000), edges(0, 3));
        each("ranked", edges(0, placesLast), edges(0, 2000), edges(0, 2000));
    }

    private void persons() {
        begin();
        each("person", edges(0, placesLast), edges(-2000, now), near(0, 3), near(-1, 5));
        begin();
        each("right", near(0, personsLast), near(0, placesLast), edges(0, 2), edges(1, 99), near(-2000, now));
        each("right", near(0, personsLast), near(0, placesLast), near(0, 2), near(1, 3), edges(-2000, now));
        begin();
        each("gone", edges(0, personsLast));
        each("gone", edges(0, personsLast));
        each("end", edges(0, rightsLast));
        each("end", edges(0, rightsLast));
        begin();
        each("may", edges(0, personsLast), edges(0, placesLast), edges(0, 2000), edges(0, 4));
        each("furrows", edges(0, placesLast), edges(0, 2000), edges(0, 1));
    }

    private void texts() {
        begin();
        for (int n : edges(1, 8)) {
            for (long bytes : new long[] {Long.MIN_VALUE, -1, 0, 'h', Long.MAX_VALUE}) {
                same("feed", n, bytes);
                same("count", 10);
            }
        }
        for (boolean facts : new boolean[] {false, true, true, false}) {
            begin();
            same("text", facts);
            same("text", !facts);
            same("feed", 3, World.rule("1=1"));
            same("text", facts);
            same("text", !facts);
            same("feed", 3, World.rule("1=1"));
            same("text", !facts);
            same("count", 10);
        }
        begin();
        each("old", edges(0, placesLast), edges(0, textsLast), edges(0, 2000));
    }

    private void sales() {
        begin();
        each("sell", near(0, placesLast), edges(0, 9999), edges(0, 9999), near(0, 9999));
        each("twice", edges(0, placesLast));
        begin();
        each("base", edges(0, placesLast), edges(0, 999));
        each("worth", edges(0, placesLast), edges(1, 7), edges(0, 100));
    }

    private void lots() {
        begin();
        each("fact", edges(0, petitionsLast), edges(0, 3), edges(0, 2));
        each("ends", edges(0, petitionsLast), edges(0, 2));
        begin();
        each("lot", edges(0, 9999), edges(0, 5));
        each("member", edges(0, 7), edges(-9, 9));
        each("lot", edges(0, 9999), edges(0, 5));
    }

    private void lines() {
        int all = (1 << linesLast + 1) - 1;
        begin();
        each("line", edges(0, 2), near(1, 2), new int[] {-1, 0, textsLast, textsLast + 1, 9999, 10000},
                new int[] {-1, 0, all, all + 1});
        begin();
        each("line", near(0, 2), edges(1, 2), edges(0, 9999), edges(0, all));
        begin();
        each("stands", edges(0, all));
        each("falls", edges(0, linesLast));
    }

    private void sets() {
        int all = (1 << linesLast + 1) - 1;
        begin();
        each("under", edges(0, all), edges(0, placesLast), edges(0, 2000), edges(0, 1));
        each("gain", edges(0, linesLast), edges(0, 2000), edges(0, 2));
        each("check", edges(0, all), edges(0, 2000));
        each("put", new int[] {MIN, 0, MAX});
        each("check", edges(0, all), new int[] {-1, 2001});
        each("count", new int[] {17});
    }

    private void knots() {
        int all = (1 << linesLast + 1) - 1;
        begin();
        each("want", edges(0, 7), edges(0, 8), edges(-9, 9));
        each("bar", edges(0, 7), edges(-99, 99));
        each("read", edges(0, 7), edges(0, 511));
        begin();
        each("there", near(0, 7), near(0, 4), edges(0, 40), edges(0, 40));
        each("divide", edges(0, all), edges(0, 4), edges(0, 1));
        each("carry", edges(0, 4), edges(0, 8));
        each("nights", edges(1, 5), edges(1, 9));
        each("nightOf", edges(1, 5), edges(1, 9), edges(0, linesLast));
    }

    private void elections() {
        int all = (1 << linesLast + 1) - 1;
        begin();
        each("elect", edges(0, all), edges(0, placesLast), edges(0, 2000), edges(0, 5));
        each("patron", edges(0, 5), edges(0, 3));
        each("count", new int[] {MIN, -1, 0, 1, 2, 3, 4, 5, 6, 7, 8, 9, 10, 11, 12, 13, 14, 15, 16, 17, 18, MAX});
    }
}
