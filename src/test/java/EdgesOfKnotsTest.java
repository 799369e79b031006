/** Where promises 31 to 38 end: what knots want and have read, how they divide, carry, and nights. */
public final class EdgesOfKnotsTest {
    private static final int MIN = Integer.MIN_VALUE;
    private static final int MAX = Integer.MAX_VALUE;

    public static void main(String[] args) {
        promise31Knot();
        promise31Line();
        promise31Want();
        promise32Bar();
        promise32Order();
        promise33Read();
        promise33Another();
        promise34Refusals();
        promise34Numbers();
        promise34Kept();
        promise35Bar();
        promise35BarOfNothing();
        promise35GreatestWants();
        promise35ReadAndStands();
        promise35There();
        promise35ThereAtFirst();
        promise35NoMoreThanItHas();
        promise35Greatest();
        promise35Refusals();
        promise36Carried();
        promise36Fewest();
        promise36LeastSet();
        promise36AllStand();
        promise36None();
        promise36All();
        promise36Loses();
        promise36Greatest();
        promise36Refusals();
        Due.end();
    }

    private static void wants(RottenSeats x, int knot, int... wants) {
        for (int line = 0; line < wants.length; line++) {
            x.want(knot, line, wants[line]);
        }
    }

    private static void divided(RottenSeats x, int set, int night, int least, int most) {
        Due.due("least of " + set + " on " + night, x.divide(set, night, 0), least);
        Due.due("most of " + set + " on " + night, x.divide(set, night, 1), most);
    }

    private static void promise31Knot() {
        Due.says("What a KNOT wants of a LINE (0 .. 8): what it was. Refused as told: -1; -4; -6.");
        Edge.among("knot that wants", 0, 7, 1000000001, (x, v) -> x.want(v, 0, 0));
        Edge.refused("no knot ahead of below", 1000000001, x -> x.want(8, 0, -10));
        Edge.refused("no knot ahead of above", 1000000001, x -> x.want(-1, 0, 10));
    }

    private static void promise31Line() {
        Due.says("What a KNOT wants of a LINE (0 .. 8)");
        // Three lines are told; what is wanted may be told of all nine.
        Edge.among("line that is wanted", 0, 8, 1000000001, (x, v) -> x.want(0, v, 0));
        Edge.refused("no line ahead of below", 1000000001, x -> x.want(0, 9, -10));
        Edge.refused("no line ahead of above", 1000000001, x -> x.want(0, -1, 10));
        RottenSeats x = World.knots(1);
        x.want(0, 8, 5);
        x.bar(0, 4);
        World.lines(x, 0, 0, 0, 0, 0, 0, 0, 0);
        divided(x, 255, 0, -1, -1);
        World.lines(x, 0);
        divided(x, 256, 0, 1, 1);
    }

    private static void promise31Want() {
        Due.says("for each LINE -9 .. 9 (told; 0 at first)");
        Edge.range("want", -9, 1000000004, 9, 1000000006, (x, v) -> x.want(0, 0, v));
        RottenSeats x = new RottenSeats();
        for (int knot = 0; knot < 8; knot++) {
            for (int line = 0; line < 9; line++) {
                Due.due("want of " + knot + " at first", x.want(knot, line, knot + line - 7), 0);
            }
        }
        for (int knot = 0; knot < 8; knot++) {
            for (int line = 0; line < 9; line++) {
                Due.due("want of " + knot + " as told", x.want(knot, line, 0), knot + line - 7);
            }
        }
        Due.due("want(0, 0, -9)", x.want(0, 0, -9), 0);
        Due.due("want(0, 0, 9)", x.want(0, 0, 9), -9);
        Due.due("want(0, 0, 0)", x.want(0, 0, 0), 9);
    }

    private static void promise32Bar() {
        Due.says("a BAR (-99 .. 99; 0 at first)");
        Edge.range("bar", -99, 1000000004, 99, 1000000006, (x, v) -> x.bar(0, v));
        RottenSeats x = new RottenSeats();
        for (int knot = 0; knot < 8; knot++) {
            Due.due("bar of " + knot + " at first", x.bar(knot, -99), 0);
        }
        for (int knot = 0; knot < 8; knot++) {
            Due.due("bar of " + knot + " was the least", x.bar(knot, 99), -99);
            Due.due("bar of " + knot + " was the greatest", x.bar(knot, 0), 99);
        }
    }

    private static void promise32Order() {
        Due.says("BAR of a KNOT: what it was. Refused as told: -1; -4; -6.");
        Edge.among("knot of a bar", 0, 7, 1000000001, (x, v) -> x.bar(v, 0));
        Edge.refused("no knot ahead of below", 1000000001, x -> x.bar(8, -100));
        Edge.refused("no knot ahead of above", 1000000001, x -> x.bar(-1, 100));
    }

    private static void promise33Read() {
        Due.says("READ: a set of LINES that a KNOT has read (told, from now on).");
        Edge.taken("lines that are not told", x -> x.read(0, 504));
        Due.says("READ of a KNOT: the set becomes another: what it was. -1; -4; -6 (0 .. 511).");
        Edge.among("knot that reads", 0, 7, -1, (x, v) -> x.read(v, 0));
        Edge.range("set that is read", 0, -4, 511, -6, (x, v) -> x.read(0, v));
        Edge.refused("no knot ahead of below", -1, x -> x.read(8, -1));
        Edge.refused("no knot ahead of above", -1, x -> x.read(-1, 512));
    }

    private static void promise33Another() {
        Due.says("the set becomes another: what it was");
        RottenSeats x = new RottenSeats();
        for (int knot = 0; knot < 8; knot++) {
            Due.due("read of " + knot + " at first", x.read(knot, 511), 0);
            Due.due("read of " + knot + " was all", x.read(knot, 256), 511);
            // It becomes another; it is not added to.
            Due.due("read of " + knot + " was the last line", x.read(knot, 1), 256);
            Due.due("read of " + knot + " was the first line", x.read(knot, 0), 1);
            Due.due("read of " + knot + " was none", x.read(knot, knot), 0);
        }
    }

    private static void promise34Refusals() {
        Due.says("THERE of a KNOT on a NIGHT: 1. -1; -4 (most below least, too); -6 (40).");
        Edge.among("knot that is there", 0, 7, -1, (x, v) -> x.there(v, 0, 0, 0));
        Due.says("On a NIGHT (0 .. 4): THERE of a KNOT");
        Edge.among("night on which one is there", 0, 4, -1, (x, v) -> x.there(0, v, 0, 0));
        Edge.refused("no knot ahead of below", -1, x -> x.there(8, 0, -1, 41));
        Edge.refused("no night ahead of below", -1, x -> x.there(0, 5, -1, 41));
        Edge.refused("no night ahead of most below least", -1, x -> x.there(0, -1, 3, 2));
    }

    private static void promise34Numbers() {
        Due.says("-4 (most below least, too); -6 (40)");
        Edge.range("least there of 40", 0, -4, 40, -4, (x, v) -> x.there(0, 0, v, 40));
        Edge.range("most there of 0", 0, -4, 40, -6, (x, v) -> x.there(0, 0, 0, v));
        Edge.range("most there of 17", 17, -4, 40, -6, (x, v) -> x.there(0, 0, 17, v));
        Edge.range("least and most there", 0, -4, 40, -6, (x, v) -> x.there(0, 0, v, v));
        Edge.refused("most below least, both above", -4, x -> x.there(0, 0, 42, 41));
        Edge.refused("least below, most above", -4, x -> x.there(0, 0, -1, 41));
        Edge.refused("both below", -4, x -> x.there(0, 0, -2, -1));
        Edge.refused("the least ints", -4, x -> x.there(0, 0, MIN, MIN));
        Edge.refused("all the ints between", -4, x -> x.there(0, 0, MIN, MAX));
        Edge.refused("the other way round", -4, x -> x.there(0, 0, MAX, MIN));
    }

    private static void promise34Kept() {
        Due.says("from least to most of its MEMBERS (told, 0 .. 40 each; 0 at first;");
        RottenSeats x = World.knots(9, 9, 9, 9);
        World.lines(x, 0);
        for (int knot = 0; knot < 4; knot++) {
            for (int night = 0; night < 5; night++) {
                Due.due("there(" + knot + ", " + night + ")", x.there(knot, night, knot, knot + night), 1);
            }
        }
        // All say no: the least yes less the most no.
        for (int night = 0; night < 5; night++) {
            divided(x, 0, night, -6 - 4 * night, -6);
        }
        Due.due("there(3, 4) once more", x.there(3, 4, 0, 0), 1);
        divided(x, 0, 4, -3 - 12, -3);
        divided(x, 0, 3, -6 - 12, -6);
    }

    private static void promise35Bar() {
        Due.says("is above its BAR; else no");
        RottenSeats x = World.knots(1);
        World.lines(x, 0, 0);
        wants(x, 0, 5, -3);
        int[][] bars = {{1, 4, 1}, {1, 5, -1}, {1, 6, -1}, {3, 1, 1}, {3, 2, -1}, {2, -4, 1}, {2, -3, -1},
            {2, -2, -1}, {0, -1, 1}, {0, 0, -1}};
        for (int[] of : bars) {
            x.bar(0, of[1]);
            divided(x, of[0], 0, of[2], of[2]);
        }
    }

    private static void promise35BarOfNothing() {
        Due.says("is above its BAR; else no");
        RottenSeats x = World.knots(3);
        divided(x, 0, 0, -3, -3);
        x.bar(0, -1);
        divided(x, 0, 0, 3, 3);
        x.bar(0, 0);
        divided(x, 0, 0, -3, -3);
    }

    private static void promise35GreatestWants() {
        Due.says("for each LINE -9 .. 9");
        RottenSeats x = World.knots(1);
        World.lines(x, 0, 0, 0, 0, 0, 0, 0, 0, 0);
        wants(x, 0, 9, 9, 9, 9, 9, 9, 9, 9, 9);
        x.bar(0, 80);
        divided(x, 511, 0, 1, 1);
        divided(x, 510, 0, -1, -1);
        x.bar(0, 81);
        divided(x, 511, 0, -1, -1);
        wants(x, 0, -9, -9, -9, -9, -9, -9, -9, -9, -9);
        x.bar(0, -81);
        divided(x, 511, 0, -1, -1);
        divided(x, 510, 0, 1, 1);
        x.bar(0, -82);
        divided(x, 511, 0, 1, 1);
        x.bar(0, -99);
        divided(x, 511, 0, 1, 1);
        x.bar(0, 99);
        divided(x, 0, 0, -1, -1);
    }

    private static void promise35ReadAndStands() {
        Due.says("the sum of what it wants of those that STAND in it and that it has READ");
        RottenSeats x = World.knots(1);
        World.lines(x, 0, 1, 0);
        wants(x, 0, 0, 9, 1);
        divided(x, 2, 0, -1, -1);
        divided(x, 3, 0, 1, 1);
        x.read(0, 5);
        divided(x, 3, 0, -1, -1);
        divided(x, 7, 0, 1, 1);
        x.read(0, 3);
        divided(x, 4, 0, -1, -1);
        divided(x, 6, 0, -1, -1);
        x.read(0, 0);
        divided(x, 7, 0, -1, -1);
        x.read(0, 508);
        divided(x, 7, 0, 1, 1);
        // What was read of lines that nobody told counts when they are told.
        x.read(0, 256);
        x.want(0, 8, 1);
        divided(x, 7, 0, -1, -1);
        World.lines(x, 0, 0, 0, 0, 0, 0);
        divided(x, 511, 0, 1, 1);
    }

    private static void promise35There() {
        Due.says("DIVIDE: LEAST: yes ones' least THERE less no ones' most; MOST: their most less no ones' least.");
        RottenSeats x = World.knots(10, 10, 10, 10);
        World.lines(x, 0);
        x.want(0, 0, 1);
        x.want(1, 0, 1);
        x.there(0, 2, 1, 10);
        x.there(1, 2, 2, 9);
        x.there(2, 2, 3, 8);
        x.there(3, 2, 4, 7);
        divided(x, 1, 2, 1 + 2 - 8 - 7, 10 + 9 - 3 - 4);
        divided(x, 0, 2, -10 - 9 - 8 - 7, -1 - 2 - 3 - 4);
        x.want(2, 0, 1);
        x.want(3, 0, 1);
        divided(x, 1, 2, 1 + 2 + 3 + 4, 10 + 9 + 8 + 7);
    }

    private static void promise35ThereAtFirst() {
        Due.says("(told, 0 .. 40 each; 0 at first;");
        RottenSeats x = new RottenSeats();
        World.lines(x, 0);
        for (int knot = 0; knot < 8; knot++) {
            x.member(knot, 0);
            x.want(knot, 0, knot % 2);
            x.read(knot, 1);
        }
        for (int night = 0; night < 5; night++) {
            divided(x, 1, night, 0, 0);
            Due.due("carry(" + night + ", 0)", x.carry(night, 0), -9);
        }
    }

    private static void promise35NoMoreThanItHas() {
        Due.says("where it is used, neither is more than it has then");
        RottenSeats x = World.knots(0);
        World.lines(x, 0);
        x.want(0, 0, 1);
        x.there(0, 0, 2, 4);
        int[][] theres = {{0, 0}, {1, 1}, {2, 2}, {2, 3}, {2, 4}, {2, 4}};
        for (int has = 0; has < theres.length; has++) {
            divided(x, 1, 0, theres[has][0], theres[has][1]);
            divided(x, 0, 0, -theres[has][1], -theres[has][0]);
            x.member(0, 0);
            // Members of another knot count nothing.
            x.member(1, 0);
        }
        x.there(0, 0, 40, 40);
        divided(x, 1, 0, 6, 6);
    }

    private static void promise35Greatest() {
        Due.says("from least to most of its MEMBERS (told, 0 .. 40 each");
        RottenSeats x = World.knots(40);
        World.lines(x, 0);
        x.want(0, 0, 1);
        divided(x, 1, 0, 40, 40);
        divided(x, 0, 0, -40, -40);
        x.there(0, 0, 0, 40);
        divided(x, 1, 0, 0, 40);
        divided(x, 0, 0, -40, 0);
        Due.due("carry(0, 0)", x.carry(0, 0), -9);
        x.there(0, 0, 39, 40);
        divided(x, 1, 0, 39, 40);
        RottenSeats y = World.knots(5, 5, 5, 5, 5, 5, 5, 5);
        World.lines(y, 0);
        divided(y, 1, 0, -40, -40);
        for (int knot = 0; knot < 8; knot++) {
            y.want(knot, 0, 9);
            divided(y, 1, 0, -40 + 10 * (knot + 1), -40 + 10 * (knot + 1));
        }
    }

    private static void promise35Refusals() {
        Due.says("LEAST (what 0), MOST (1). Refused as told: -1 (a set with others, too); -2.");
        Edge.among("set to divide on", 0, 7, 1000000001, (x, v) -> x.divide(v, 0, 0));
        Edge.among("night to divide on", 0, 4, 1000000001, (x, v) -> x.divide(0, v, 0));
        Edge.among("what of a division", 0, 1, 1000000002, (x, v) -> x.divide(0, 0, v));
        Edge.refused("a set with others ahead of what", 1000000001, x -> x.divide(8, 0, 2));
        Edge.refused("a set with told ones and others", 1000000001, x -> x.divide(15, 0, 0));
        Edge.refused("no night ahead of what", 1000000001, x -> x.divide(0, 5, -1));
        Edge.refusedWhenFull("a set with line 9", 1000000001, x -> x.divide(512, 0, 0));
    }

    private static void promise36Carried() {
        Due.says("CARRIED if LEAST is above 0.");
        RottenSeats x = World.knots(5, 5);
        World.lines(x, 0);
        x.want(0, 0, 1);
        Due.due("5 to 5", x.carry(0, 0), -9);
        x.there(1, 0, 4, 4);
        Due.due("5 to 4", x.carry(0, 0), 0);
        x.there(0, 0, 4, 5);
        Due.due("4 or 5 to 4", x.carry(0, 0), -9);
        x.there(0, 0, 5, 5);
        x.there(1, 0, 4, 5);
        Due.due("5 to 4 or 5", x.carry(0, 0), -9);
        x.there(1, 0, 0, 4);
        Due.due("5 to 0 .. 4", x.carry(0, 0), 0);
    }

    private static void promise36Fewest() {
        Due.says("the one with the fewest left out that is CARRIED");
        RottenSeats x = World.knots(1);
        World.lines(x, 0, 0, 0);
        // All -1; but 2: 2; but 0 and 1, a lesser set of more: -3
        wants(x, 0, 1, 1, -3);
        Due.due("all but one", x.carry(0, 0), 4);
        x.bar(0, -2);
        Due.due("all", x.carry(0, 0), 0);
        x.bar(0, 2);
        Due.due("none above 2", x.carry(0, 0), -9);
        wants(x, 0, -2, -2, 5);
        x.bar(0, 2);
        // All 1; but 0, or but 1: 3; but both: 5
        Due.due("all but one, not two", x.carry(0, 0), 1);
        x.bar(0, 3);
        Due.due("all but two", x.carry(0, 0), 3);
    }

    private static void promise36LeastSet() {
        Due.says("of several the least set left out, as bits");
        RottenSeats x = World.knots(1);
        World.lines(x, 0, 0, 0, 0, 0, 0, 0, 0, 0);
        wants(x, 0, -1, -1, -1, -1, -1, -1, -1, -1, -1);
        int[] least = {511, 255, 127, 63, 31, 15, 7, 3, 1, 0};
        for (int bar = -1; bar >= -10; bar--) {
            x.bar(0, bar);
            Due.due("carry with bar " + bar, x.carry(0, 0), least[-bar - 1]);
        }
        wants(x, 0, 1, 1, 1, 1, 1, 1, -1, -1, -1);
        x.bar(0, 3);
        Due.due("the least of 6, 7, 8", x.carry(0, 0), 64);
        x.bar(0, 4);
        Due.due("the least two of them", x.carry(0, 0), 192);
        x.bar(0, 5);
        Due.due("all three", x.carry(0, 0), 448);
    }

    private static void promise36AllStand() {
        Due.says("of sets of LINES that all STAND (all told ones, or all but some)");
        RottenSeats x = World.knots(1);
        World.lines(x, 0, 1, 2, 0);
        wants(x, 0, -3, 0, 1, 1);
        // All -1. Without 0 neither 1 nor 2 stands, so it goes with both.
        Due.due("0 with those that hang on it", x.carry(0, 0), 7);
        wants(x, 0, 0, -3, 1, 1);
        Due.due("1 with the one that hangs on it", x.carry(0, 0), 6);
        wants(x, 0, 0, 1, -3, 1);
        Due.due("2 alone", x.carry(0, 0), 4);
        wants(x, 0, 0, 1, 1, -3);
        Due.due("3 alone", x.carry(0, 0), 8);
        wants(x, 0, 1, 0, 0, 0);
        Due.due("all", x.carry(0, 0), 0);
    }

    private static void promise36None() {
        Due.says("the set left out (what 0; -9 none), 1 + KNOT: what it LOSES by it (0 if none)");
        RottenSeats x = World.knots(1);
        World.lines(x, 0, 0);
        wants(x, 0, -5, -4);
        Due.due("none is carried", x.carry(0, 0), -9);
        for (int what = 1; what <= 8; what++) {
            Due.due("what knot " + (what - 1) + " loses by none", x.carry(0, what), 0);
        }
        for (int night = 1; night < 5; night++) {
            Due.due("none on night " + night, x.carry(night, 0), -9);
        }
        Due.due("refusals", World.refusals(x), 0);
    }

    private static void promise36All() {
        Due.says("(all told ones, or all but some)");
        RottenSeats x = World.knots(1);
        x.bar(0, -1);
        Due.due("no line is told", x.carry(0, 0), 0);
        Due.due("what is lost by it", x.carry(0, 1), 0);
        World.lines(x, 0);
        x.want(0, 0, -9);
        Due.due("all but the only one", x.carry(0, 0), 1);
        Due.due("what is lost by it", x.carry(0, 1), -9);
        x.bar(0, 0);
        Due.due("not with bar 0", x.carry(0, 0), -9);
    }

    private static void promise36Loses() {
        Due.says("LOSES: what a KNOT wants of LINES left out that it has READ, together.");
        RottenSeats x = World.knots(20, 1, 1, 1, 1, 1, 1, 1);
        World.lines(x, 0, 0, 0);
        wants(x, 0, -9, -9, 1);
        for (int knot = 1; knot < 8; knot++) {
            wants(x, knot, knot, -9, 9);
            x.read(knot, knot);
        }
        Due.due("the set left out", x.carry(0, 0), 3);
        int[] loses = {-18, 1, -9, 3 - 9, 0, 5, -9, 7 - 9};
        for (int knot = 0; knot < 8; knot++) {
            Due.due("what knot " + knot + " loses", x.carry(0, 1 + knot), loses[knot]);
        }
        x.bar(0, -99);
        Due.due("all", x.carry(0, 0), 0);
        Due.due("what knot 1 loses by all", x.carry(0, 2), 0);
    }

    private static void promise36Greatest() {
        Due.says("LOSES: what a KNOT wants of LINES left out that it has READ, together.");
        RottenSeats x = World.knots(9, 1, 1);
        World.lines(x, 0, 0, 0, 0, 0, 0, 0, 0, 0);
        wants(x, 0, -9, -9, -9, -9, -9, -9, -9, -9, -9);
        wants(x, 1, 9, 9, 9, 9, 9, 9, 9, 9, 9);
        x.bar(0, -1);
        Due.due("all nine left out", x.carry(0, 0), 511);
        Due.due("the least lost", x.carry(0, 1), -81);
        Due.due("the most lost", x.carry(0, 2), 81);
        Due.due("nothing wanted, nothing lost", x.carry(0, 3), 0);
    }

    private static void promise36Refusals() {
        Due.says("what it LOSES by it (0 if none). Refused as told: -1; -2.");
        Edge.among("night to carry", 0, 4, 1000000001, (x, v) -> x.carry(v, 0));
        Edge.among("what of a night carried", 0, 8, 1000000002, (x, v) -> x.carry(0, v));
        Edge.refused("no night ahead of what", 1000000001, x -> x.carry(5, 9));
        Edge.refused("no night ahead of what below", 1000000001, x -> x.carry(-1, -1));
    }
}
