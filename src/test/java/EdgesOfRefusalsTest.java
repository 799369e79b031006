import java.util.Arrays;

/** What the Terms say of REFUSALS: their numbers, what they count, and that they change nothing. */
public final class EdgesOfRefusalsTest {
    /** Calls that World.some() refuses, each with the number by which it does. */
    private static final Object[][] REFUSED = {{-4, "days", 0}, {-6, "days", 1501}, {-1, "place", 0, 6},
        {-4, "place", -1, 0}, {-6, "place", 3, 0}, {-1, "roll", 3, 0, 0, 0, 0}, {-2, "roll", 0, 2, 0, 0, 0},
        {-4, "roll", 0, 0, 0, -1, 0}, {-6, "roll", 0, 0, 501, 0, 0}, {-1, "number", 3, 0, 0, 0, false},
        {-2, "number", 0, 2, 0, 0, false}, {-4, "number", 0, 0, -1, 0, false}, {-6, "number", 0, 0, 0, 2001, true},
        {-2, "weigh", 2, 0}, {-4, "weigh", 0, -1}, {-6, "weigh", 1, 100}, {-1, "list", 3, 0, 0, 0},
        {-2, "list", 0, 0, 0, 4}, {-4, "list", 0, -1, 0, 0}, {-6, "list", 0, 0, 2001, 0}, {-4, "ranked", 0, -1, 0},
        {-6, "ranked", 0, 0, 2001}, {-1, "person", 3, 0, 0, 0}, {-1, "person", 0, 0, 0, 6}, {-2, "person", 0, 0, 4, 0},
        {-4, "person", 0, -2001, 0, 0}, {-6, "person", 0, 501, 0, 0}, {-1, "gone", 4}, {-3, "gone", 2},
        {-1, "right", 4, 0, 0, 0, 0}, {-1, "right", 0, 3, 0, 0, 0}, {-2, "right", 0, 0, 3, 0, 0},
        {-4, "right", 0, 0, 1, 0, 0}, {-6, "right", 0, 0, 2, 4, 0}, {-1, "end", 5}, {-3, "end", 3},
        {-4, "feed", 0, 0L}, {-6, "feed", 9, 0L}, {-1, "old", 3, 0, 0}, {-1, "old", 0, 2, 0}, {-4, "old", 0, 0, -1},
        {-6, "old", 0, 0, 2001}, {-1, "may", 4, 0, 0, 0}, {-1, "may", 0, 3, 0, 0}, {-2, "may", 0, 0, 0, 5},
        {-4, "may", 0, 0, -1, 0}, {-6, "may", 0, 0, 2001, 0}, {-1, "furrows", 3, 0, 0}, {-2, "furrows", 0, 0, 2},
        {-4, "furrows", 0, -1, 0}, {-6, "furrows", 0, 2001, 0}, {-1, "sell", 3, 0, 0, 0}, {-4, "sell", 0, 1, 0, 0},
        {-6, "sell", 0, 0, 10000, 0}, {-1, "twice", 3}, {-1, "base", 3, 0}, {-4, "base", 0, -1},
        {-6, "base", 0, 1000}, {-1, "worth", 3, 1, 0}, {-4, "worth", 0, 0, 0}, {-6, "worth", 0, 8, 0},
        {-1, "fact", 1, 0, 0}, {-2, "fact", 0, 4, 0}, {-2, "fact", 0, 0, 3}, {-1, "ends", 1, 0}, {-2, "ends", 0, 3},
        {-1, "member", 8, 0}, {-4, "member", 0, -10}, {-6, "member", 0, 10}, {-2, "lot", 0, 6}, {-4, "lot", -1, 0},
        {-6, "lot", 10000, 0}, {-2, "line", 3, 1, 0, 0}, {-4, "line", 0, 0, 0, 0}, {-6, "line", 0, 3, 0, 0},
        {-1, "line", 2, 1, 2, 0}, {-3, "line", 0, 1, 0, 8}, {-1, "falls", 3}, {-1, "under", 8, 0, 0, 0},
        {-1, "under", 0, 3, 0, 0}, {-2, "under", 0, 0, 0, 2}, {-4, "under", 0, 0, -1, 0}, {-6, "under", 0, 0, 2001, 0},
        {-1, "read", 8, 0}, {-4, "read", 0, -1}, {-6, "read", 0, 512}, {-1, "there", 8, 0, 0, 0},
        {-1, "there", 0, 5, 0, 0}, {-4, "there", 0, 0, 1, 0}, {-6, "there", 0, 0, 0, 41}, {-4, "nights", 0, 1},
        {-6, "nights", 1, 10}, {-1, "nightOf", 1, 1, 3}, {-4, "nightOf", 1, 0, 0}, {-6, "nightOf", 6, 1, 0},
        {-1, "patron", 6, 0}, {-2, "patron", 0, 4}, {-1, "elect", 8, 0, 0, 0}, {-1, "elect", 0, 3, 0, 0},
        {-2, "elect", 0, 0, 0, 6}, {-4, "elect", 0, 0, -1, 0}, {-6, "elect", 0, 0, 2001, 0}, {-1, "check", 8, 0},
        {-4, "check", 0, -1}, {-6, "check", 0, 2001}};
    /** Calls whose own answers may be below 0. */
    private static final Object[][] APART = {{-1, "gain", 3, 0, 0}, {-2, "gain", 0, 0, 3}, {-4, "gain", 0, -1, 0},
        {-6, "gain", 0, 2001, 0}, {-1, "want", 8, 0, 0}, {-1, "want", 0, 9, 0}, {-4, "want", 0, 0, -10},
        {-6, "want", 0, 0, 10}, {-1, "bar", 8, 0}, {-4, "bar", 0, -100}, {-6, "bar", 0, 100}, {-1, "divide", 8, 0, 0},
        {-1, "divide", 0, 5, 0}, {-2, "divide", 0, 0, 2}, {-1, "carry", 5, 0}, {-2, "carry", 0, 9}};
    /** Calls that answer below 0 and refuse nothing. */
    private static final Object[][] ANSWERED = {{-9, "ranked", 3, 0, 0}, {-9, "ranked", -1, 0, 0},
        {-9, "furrows", 1, 500, 1}, {-9, "twice", 1}, {-9, "stands", 8}, {-9, "under", 0, 2, 0, 1},
        {-9, "carry", 3, 0}, {-9, "nightOf", 4, 1, 1}, {-9, "count", 18}, {-22, "text", false}, {-20, "text", true},
        {-9, "check", 0, 0}, {-9, "check", 0, 0}};

    public static void main(String[] args) {
        numbers();
        counted();
        apart();
        answered();
        nothingChanges();
        ofTheFull();
        missing();
        Due.end();
    }

    private static String name(Object[] call) {
        return Arrays.toString(call);
    }

    private static int tell(RottenSeats x, Object[] call) {
        return World.tell(x, Arrays.copyOfRange(call, 1, call.length));
    }

    private static void numbers() {
        Due.says("REFUSALS (the call answers the number,");
        for (Object[] call : REFUSED) {
            Due.due(name(call), tell(World.some(), call), (Integer) call[0]);
        }
    }

    private static void counted() {
        Due.says("nothing changes but how many there were");
        RottenSeats x = World.some();
        int[] many = new int[7];
        for (Object[] call : REFUSED) {
            int number = -(Integer) call[0];
            many[number]++;
            tell(x, call);
            Due.due("refusals of -" + number + " behind " + name(call), x.count(10 + number), many[number]);
        }
        for (int number = 1; number <= 6; number++) {
            Due.due("refusals of -" + number, x.count(10 + number), many[number]);
        }
    }

    private static void apart() {
        Due.says("Of answers that may be below 0 otherwise than -9 or a FAULT as told REFUSALS are 1000000000 less "
                + "them (-1 as 1000000001).");
        for (Object[] call : APART) {
            RottenSeats x = World.some();
            int number = -(Integer) call[0];
            Due.due(name(call), tell(x, call), 1000000000 + number);
            Due.due("refusals of -" + number + " behind " + name(call), x.count(10 + number), 1);
            Due.due("refusals behind " + name(call), World.refusals(x), 1);
        }
    }

    private static void answered() {
        Due.says("otherwise than -9 or a FAULT as told");
        RottenSeats x = World.some();
        x.days(1);
        for (Object[] call : ANSWERED) {
            Due.due(name(call), tell(x, call), (Integer) call[0]);
            Due.due("refusals behind " + name(call), World.refusals(x), 0);
        }
    }

    private static void nothingChanges() {
        Due.says("nothing changes but how many there were");
        int left = 512 - World.someCalls().length - REFUSED.length;
        RottenSeats x = World.some();
        for (Object[] call : REFUSED) {
            tell(x, call);
        }
        Due.due("the same all round", Probe.isSame(x, World.some(), left) ? 1 : 0, 1);
        RottenSeats y = World.some();
        for (int i = 0; i < 5; i++) {
            for (Object[] call : APART) {
                tell(y, call);
            }
        }
        Due.due("the same all round behind others", Probe.isSame(y, World.some(), left) ? 1 : 0, 1);
    }

    private static void ofTheFull() {
        Due.says("-6 ROOM: a number above the greatest, no room.");
        RottenSeats x = World.full();
        Object[][] calls = {{"days", 1}, {"place", 0, 0}, {"roll", 0, 0, 0, 0, 0}, {"person", 0, 0, 0, 0},
            {"right", 0, 0, 0, 0, 0}, {"feed", 1, 0L}, {"text", false}, {"text", true}, {"old", 0, 0, 0},
            {"sell", 0, 0, 0, 0}, {"member", 0, 0}, {"line", 0, 1, 0, 0}, {"put", 0}};
        for (Object[] call : calls) {
            Due.due(name(call), World.tell(x, call), -6);
        }
        Due.due("refusals of -6", x.count(16), calls.length);
        Due.due("the same all round", Probe.isSame(x, World.full(), 37) ? 1 : 0, 1);
    }

    private static void missing() {
        Due.says("-5 MISSING: nothing is told where something is wanted.");
        // No promise names it: what nothing is told of answers 0, -9 or another number.
        RottenSeats x = World.some();
        for (Object[] call : REFUSED) {
            tell(x, call);
        }
        for (Object[] call : APART) {
            tell(x, call);
        }
        x.place(1, -1);
        Due.due("number without a roll", x.number(3, 0, 0, 0, false), 0);
        Due.due("may without a text", x.may(0, 3, 0, 0), 0);
        Due.due("twice without a sale", x.twice(3), -9);
        Due.due("count(15)", x.count(15), 0);
    }
}
