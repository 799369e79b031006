/**
 * Edges of one argument: the last value that is taken and the first that is refused. What is refused
 * answers its number, is counted once under it, and changes nothing else: an object that refused a
 * call answers all round as one that was never asked.
 */
final class Edge {
    /** Calls of one run that the document promises. */
    private static final int CALLS = 512;

    interface Make {
        RottenSeats one();
    }

    interface Call {
        int on(RottenSeats x);
    }

    interface CallOf {
        int on(RottenSeats x, int v);
    }

    private Edge() {
    }

    static void range(String call, int least, int below, int greatest, int above, CallOf on) {
        least(call, least, below, on);
        greatest(call, greatest, above, on);
    }

    /** Numbers of what there is: all others are refused with the same number. */
    static void among(String call, int first, int last, int refusal, CallOf on) {
        range(call, first, refusal, last, refusal, on);
    }

    static void least(String call, int v, int refusal, CallOf on) {
        taken(call + " of " + v, x -> on.on(x, v));
        refused(call + " of " + (v - 1), refusal, x -> on.on(x, v - 1));
        refused(call + " of the least int", refusal, x -> on.on(x, Integer.MIN_VALUE));
    }

    static void greatest(String call, int v, int refusal, CallOf on) {
        taken(call + " of " + v, x -> on.on(x, v));
        refused(call + " of " + (v + 1), refusal, x -> on.on(x, v + 1));
        refused(call + " of the greatest int", refusal, x -> on.on(x, Integer.MAX_VALUE));
    }

    static void taken(String call, Call on) {
        taken(call, World::some, on);
    }

    static void taken(String call, Make make, Call on) {
        RottenSeats x = make.one();
        int ahead = World.refusals(x);
        on.on(x);
        Due.due(call + ", refusals", World.refusals(x) - ahead, 0);
    }

    static void refused(String call, int want, Call on) {
        refused(call, want, World::some, World.someCalls().length, on);
    }

    static void refusedWhenFull(String call, int want, Call on) {
        refused(call, want, World::full, World.fullCalls().length, on);
    }

    static void refusedWhenNew(String call, int want, Call on) {
        refused(call, want, RottenSeats::new, 0, on);
    }

    /** Made by so many calls; the refusals are counted ahead of the call and behind it. */
    private static void refused(String call, int want, Make make, int made, Call on) {
        RottenSeats x = make.one();
        int[] ahead = counted(x);
        Due.due(call, on.on(x), want);
        int number = want < 0 ? -want : want - 1000000000;
        int[] behind = counted(x);
        for (int i = 1; i <= 6; i++) {
            Due.due(call + ", refusals of -" + i, behind[i] - ahead[i], i == number ? 1 : 0);
        }
        if (!Probe.isSame(x, make.one(), CALLS - made - 13)) {
            Due.fail(call + " was refused and changed something");
        }
    }

    private static int[] counted(RottenSeats x) {
        int[] counts = new int[7];
        for (int i = 1; i <= 6; i++) {
            counts[i] = x.count(10 + i);
        }
        return counts;
    }
}
