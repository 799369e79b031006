/** Promises 31 to 38: what knots want and have read, how they divide, carry, and the nights. */
public final class KnotsTest {
    public static void main(String[] args) {
        promise31Want();
        promise32Bar();
        promise33Read();
        promise34There();
        promise35Divide();
        promise35Bars();
        promise35Read();
        promise35Present();
        promise35Refusals();
        promise36Carry();
        promise36Least();
        promise36NearlyAll();
        promise36Standing();
        promise36Loses();
        promise36Refusals();
        promise37Alone();
        promise37Room();
        promise37Hung();
        promise38First();
        promise38MostAheadOfFirst();
        promise37Refusals();
        promise38Refusals();
        Due.end();
    }

    private static void promise31Want() {
        RottenSeats x = new RottenSeats();
        Due.due("want(0, 0, -9)", x.want(0, 0, -9), 0);
        Due.due("want(0, 0, 9)", x.want(0, 0, 9), -9);
        Due.due("want(7, 8, 3)", x.want(7, 8, 3), 0);
        Due.due("want(7, 0, 4)", x.want(7, 0, 4), 0);
        Due.due("want(0, 8, 5)", x.want(0, 8, 5), 0);
        Due.due("want(7, 8, 0)", x.want(7, 8, 0), 3);
        Due.due("want(8, ..)", x.want(8, 0, -10), 1000000001);
        Due.due("want(-1, ..)", x.want(-1, 0, 10), 1000000001);
        Due.due("want line 9", x.want(0, 9, -10), 1000000001);
        Due.due("want line -1", x.want(0, -1, 10), 1000000001);
        Due.due("want v -10", x.want(0, 0, -10), 1000000004);
        Due.due("want v 10", x.want(0, 0, 10), 1000000006);
        Due.due("want(0, 0, 1)", x.want(0, 0, 1), 9);
        Due.refusals("after want", x, 4, 0, 0, 1, 0, 1);
    }

    private static void promise32Bar() {
        RottenSeats x = new RottenSeats();
        Due.due("bar(0, -99)", x.bar(0, -99), 0);
        Due.due("bar(0, 99)", x.bar(0, 99), -99);
        Due.due("bar(7, 1)", x.bar(7, 1), 0);
        Due.due("bar(8, ..)", x.bar(8, -100), 1000000001);
        Due.due("bar(-1, ..)", x.bar(-1, 100), 1000000001);
        Due.due("bar -100", x.bar(0, -100), 1000000004);
        Due.due("bar 100", x.bar(0, 100), 1000000006);
        Due.due("bar(0, 0)", x.bar(0, 0), 99);
        Due.refusals("after bar", x, 2, 0, 0, 1, 0, 1);
    }

    private static void promise33Read() {
        RottenSeats x = new RottenSeats();
        Due.due("read(0, 511)", x.read(0, 511), 0);
        Due.due("read(0, 8)", x.read(0, 8), 511);
        Due.due("read(7, 1)", x.read(7, 1), 0);
        Due.due("read(8, ..)", x.read(8, -1), -1);
        Due.due("read(-1, ..)", x.read(-1, 512), -1);
        Due.due("read -1", x.read(0, -1), -4);
        Due.due("read 512", x.read(0, 512), -6);
        Due.due("read(0, 0)", x.read(0, 0), 8);
        Due.refusals("after read", x, 2, 0, 0, 1, 0, 1);
    }

    private static void promise34There() {
        RottenSeats x = new RottenSeats();
        Due.due("there(0, 0, 0, 40)", x.there(0, 0, 0, 40), 1);
        Due.due("there(7, 4, 40, 40)", x.there(7, 4, 40, 40), 1);
        Due.due("there(8, ..)", x.there(8, 0, -1, 41), -1);
        Due.due("there(-1, ..)", x.there(-1, 0, 5, 4), -1);
        Due.due("there night 5", x.there(0, 5, -1, 41), -1);
        Due.due("there night -1", x.there(0, -1, 0, 0), -1);
        Due.due("there least -1", x.there(0, 0, -1, 41), -4);
        Due.due("there most -1", x.there(0, 0, 0, -1), -4);
        Due.due("there most below least", x.there(0, 0, 42, 41), -4);
        Due.due("there most 41", x.there(0, 0, 0, 41), -6);
        Due.due("there least 41", x.there(0, 0, 41, 41), -6);
        Due.refusals("after there", x, 4, 0, 0, 3, 0, 2);
    }

    private static void divided(RottenSeats x, int set, int night, int least, int most) {
        Due.due("least of " + set + " on " + night, x.divide(set, night, 0), least);
        Due.due("most of " + set + " on " + night, x.divide(set, night, 1), most);
    }

    private static void promise35Divide() {
        RottenSeats x = World.knots(10, 10, 10);
        World.lines(x, 0, 0, 2);
        x.want(0, 0, 5);
        x.want(0, 1, -6);
        x.want(1, 1, 1);
        x.want(2, 2, 9);
        x.want(2, 0, -9);
        x.there(0, 1, 1, 2);
        x.there(1, 1, 3, 5);
        x.there(2, 1, 4, 8);
        divided(x, 0, 1, -15, -8);
        divided(x, 1, 1, 1 - 5 - 8, 2 - 3 - 4);
        divided(x, 2, 1, 3 - 2 - 8, 5 - 1 - 4);
        divided(x, 3, 1, 3 - 2 - 8, 5 - 1 - 4);
        divided(x, 6, 1, 3 + 4 - 2, 5 + 8 - 1);
        // Line 2 does not stand without 1; with all, knot 2 wants 9 - 9.
        divided(x, 4, 1, -15, -8);
        divided(x, 7, 1, 3 - 2 - 8, 5 - 1 - 4);
        divided(x, 7, 0, -10, -10);
        divided(x, 7, 4, 0, 0);
    }

    private static void promise35Bars() {
        RottenSeats x = World.knots(3);
        World.lines(x, 0, 0);
        x.want(0, 0, 4);
        x.want(0, 1, 3);
        x.bar(0, 6);
        divided(x, 3, 0, 3, 3);
        x.bar(0, 7);
        divided(x, 3, 0, -3, -3);
        x.bar(0, -1);
        divided(x, 0, 0, 3, 3);
        x.bar(0, 0);
        divided(x, 0, 0, -3, -3);
    }

    private static void promise35Read() {
        RottenSeats x = World.knots(3);
        World.lines(x, 0, 0);
        x.want(0, 0, 4);
        x.want(0, 1, -9);
        divided(x, 3, 0, -3, -3);
        x.read(0, 1);
        divided(x, 3, 0, 3, 3);
        x.read(0, 2);
        divided(x, 3, 0, -3, -3);
        x.read(0, 508);
        x.bar(0, -1);
        divided(x, 3, 0, 3, 3);
    }

    private static void promise35Present() {
        RottenSeats x = World.knots(3);
        World.lines(x, 0);
        x.want(0, 0, 4);
        x.there(0, 0, 10, 20);
        divided(x, 1, 0, 3, 3);
        divided(x, 0, 0, -3, -3);
        x.there(0, 0, 1, 20);
        divided(x, 1, 0, 1, 3);
        divided(x, 0, 0, -3, -1);
        for (int i = 0; i < 12; i++) {
            x.member(0, 0);
        }
        divided(x, 1, 0, 1, 15);
        x.there(0, 0, 16, 17);
        divided(x, 1, 0, 15, 15);
    }

    private static void promise35Refusals() {
        RottenSeats x = World.knots(3);
        World.lines(x, 0);
        Due.due("a set with others", x.divide(2, 0, 2), 1000000001);
        Due.due("a set below 0", x.divide(-1, 0, 2), 1000000001);
        Due.due("night 5", x.divide(0, 5, 2), 1000000001);
        Due.due("night -1", x.divide(0, -1, -1), 1000000001);
        Due.due("what 2", x.divide(0, 0, 2), 1000000002);
        Due.due("what -1", x.divide(0, 0, -1), 1000000002);
        Due.refusals("after divide", x, 4, 2, 0, 0, 0, 0);
    }

    private static void promise36Carry() {
        RottenSeats x = World.knots(5, 4);
        World.lines(x, 0, 0, 0);
        x.want(0, 0, 3);
        x.want(0, 1, -4);
        x.want(0, 2, 0);
        Due.due("carry(0, 0): but 1", x.carry(0, 0), 2);
        Due.due("carry(1, 0): nobody there", x.carry(1, 0), -9);
        x.there(0, 4, 1, 5);
        Due.due("carry(4, 0): on the last night", x.carry(4, 0), 2);
        x.there(0, 4, 0, 5);
        Due.due("carry(4, 0): not for sure", x.carry(4, 0), -9);
        x.there(0, 0, 4, 5);
        Due.due("carry(0, 0): as many as the noes", x.carry(0, 0), -9);
        x.want(1, 1, 1);
        x.want(0, 1, -2);
        Due.due("carry(0, 0): all", x.carry(0, 0), 0);
        x.want(0, 0, -9);
        Due.due("carry(0, 0): 4 yes, 5 no", x.carry(0, 0), -9);
        x.want(0, 2, 9);
        x.want(1, 2, 9);
        Due.due("carry(0, 0): both want but 0", x.carry(0, 0), 1);
        RottenSeats y = World.knots(2);
        Due.due("no line, bar 0", y.carry(0, 0), -9);
        y.bar(0, -1);
        Due.due("no line, bar -1", y.carry(0, 0), 0);
        World.lines(y, 0, 0);
        y.want(0, 0, -9);
        y.want(0, 1, -9);
        Due.due("all left out", y.carry(0, 0), 3);
        Due.due("all left out, lost", y.carry(0, 1), -18);
    }

    private static void promise36Least() {
        RottenSeats x = World.knots(5);
        World.lines(x, 0, 0, 0, 0);
        x.want(0, 0, 2);
        x.want(0, 1, -3);
        x.want(0, 2, -3);
        x.want(0, 3, 2);
        // All -2; but 1: 1; but 2: 1. The least set of one line.
        Due.due("of several the least set", x.carry(0, 0), 2);
        x.want(0, 3, 1);
        // All -3; but one of them 0; but two: {1, 2} 3
        Due.due("two ones, not a lesser set of more", x.carry(0, 0), 6);
        x.want(0, 0, -3);
        x.want(0, 3, 9);
        x.bar(0, 2);
        // All 0; but one of 0, 1, 2: 3
        Due.due("the fewest, and the least of them", x.carry(0, 0), 1);
        x.bar(0, 8);
        Due.due("three left out", x.carry(0, 0), 7);
        x.bar(0, 9);
        Due.due("none", x.carry(0, 0), -9);
        x.want(0, 0, -9);
        x.want(0, 1, 0);
        x.want(0, 2, 0);
        x.want(0, 3, -9);
        x.bar(0, -9);
        Due.due("0 or 3", x.carry(0, 0), 9);
        x.bar(0, -10);
        Due.due("0 ahead of 3", x.carry(0, 0), 1);
    }

    private static void promise36NearlyAll() {
        RottenSeats x = World.knots(5);
        World.lines(x, 0, 0, 0, 0, 0, 0, 0, 0, 0);
        for (int line = 0; line < 9; line++) {
            x.want(0, line, line == 4 ? 2 : -3);
        }
        x.bar(0, 1);
        Due.due("all but line 4", x.carry(0, 0), 511 - 16);
        x.bar(0, 2);
        Due.due("none", x.carry(0, 0), -9);
        x.bar(0, -1);
        Due.due("all but line 4 once more", x.carry(0, 0), 511 - 16);
        x.want(0, 4, -3);
        Due.due("all nine", x.carry(0, 0), 511);
        Due.due("all nine, lost", x.carry(0, 1), -27);
    }

    private static void promise36Standing() {
        RottenSeats x = World.knots(5);
        World.lines(x, 0, 1, 2, 0);
        x.want(0, 0, -5);
        x.want(0, 1, 2);
        x.want(0, 2, 2);
        x.want(0, 3, 1);
        // Without 0 neither 1 nor 2 stands.
        Due.due("0 with those that hang on it", x.carry(0, 0), 7);
        x.want(0, 3, 2);
        Due.due("all", x.carry(0, 0), 0);
        x.want(0, 3, 0);
        x.want(0, 2, -1);
        x.want(0, 1, 6);
        x.bar(0, 0);
        Due.due("2 alone", x.carry(0, 0), 4);
    }

    private static void promise36Loses() {
        RottenSeats x = World.knots(9, 1, 1, 1);
        World.lines(x, 0, 0, 0);
        x.want(0, 0, -5);
        x.want(0, 1, -4);
        x.want(0, 2, 3);
        x.want(1, 0, 7);
        x.want(1, 1, 8);
        x.want(1, 2, 9);
        x.want(2, 0, -7);
        x.want(3, 0, 6);
        x.want(3, 1, 5);
        x.read(3, 6);
        x.want(7, 1, 4);
        Due.due("the set", x.carry(0, 0), 3);
        Due.due("knot 0 loses", x.carry(0, 1), -9);
        Due.due("knot 1 loses", x.carry(0, 2), 15);
        Due.due("knot 2 loses", x.carry(0, 3), -7);
        Due.due("knot 3 loses what it has read", x.carry(0, 4), 5);
        Due.due("knot 4 loses", x.carry(0, 5), 0);
        Due.due("knot 7 has not read", x.carry(0, 8), 0);
        x.read(7, 2);
        Due.due("knot 7 has read", x.carry(0, 8), 4);
        x.bar(0, 9);
        Due.due("none", x.carry(0, 0), -9);
        Due.due("none, knot 1 loses", x.carry(0, 2), 0);
    }

    private static void promise36Refusals() {
        RottenSeats x = World.knots(3);
        Due.due("night 5", x.carry(5, 9), 1000000001);
        Due.due("night -1", x.carry(-1, -1), 1000000001);
        Due.due("what 9", x.carry(0, 9), 1000000002);
        Due.due("what -1", x.carry(0, -1), 1000000002);
        Due.due("what 8", x.carry(0, 8), 0);
        Due.refusals("after carry", x, 2, 2, 0, 0, 0, 0);
    }

    private static void planned(RottenSeats x, int n, int c, int many, int... nights) {
        Due.due("nights(" + n + ", " + c + ")", x.nights(n, c), many);
        for (int line = 0; line < nights.length; line++) {
            Due.due("nightOf(" + n + ", " + c + ", " + line + ")", x.nightOf(n, c, line), nights[line]);
        }
    }

    private static void promise37Alone() {
        RottenSeats x = World.knots(5, 5, 5);
        planned(x, 5, 9, 0);
        World.lines(x, 0, 0, 0);
        planned(x, 5, 9, 0, -9, -9, -9);
        x.want(0, 0, 1);
        x.want(1, 0, -9);
        x.there(0, 0, 3, 5);
        x.there(1, 0, 1, 2);
        planned(x, 1, 1, 1, 0, -9, -9);
        x.there(0, 0, 2, 5);
        planned(x, 1, 1, 0, -9, -9, -9);
        // BARs count nothing here, and a knot that has not read is not there.
        x.bar(0, 99);
        x.there(0, 0, 3, 5);
        planned(x, 1, 1, 1, 0, -9, -9);
        x.there(1, 0, 1, 3);
        planned(x, 1, 1, 0, -9, -9, -9);
        x.read(1, 510);
        planned(x, 1, 1, 1, 0, -9, -9);
        x.read(0, 510);
        planned(x, 1, 1, 0, -9, -9, -9);
        // No more are there than a knot has.
        x.read(0, 511);
        x.read(1, 511);
        x.there(0, 0, 40, 40);
        x.there(1, 0, 0, 5);
        planned(x, 1, 1, 0, -9, -9, -9);
        x.there(1, 0, 0, 4);
        planned(x, 1, 1, 1, 0, -9, -9);
    }

    /** A knot that alone is there on the nights of a set, and wants each line. */
    private static RottenSeats willing(int nights, int... hangs) {
        RottenSeats x = World.knots(5);
        World.lines(x, hangs);
        for (int line = 0; line < 9; line++) {
            x.want(0, line, 1);
        }
        for (int night = 0; night < 5; night++) {
            x.there(0, night, nights >> night & 1, 5);
        }
        return x;
    }

    private static void promise37Room() {
        RottenSeats x = willing(31, 0, 0, 0, 0, 0, 0, 0, 0, 0);
        planned(x, 1, 1, 1, 0, -9, -9, -9, -9, -9, -9, -9, -9);
        planned(x, 1, 9, 9, 0, 0, 0, 0, 0, 0, 0, 0, 0);
        planned(x, 1, 8, 8, 0, 0, 0, 0, 0, 0, 0, 0, -9);
        planned(x, 2, 3, 6, 0, 0, 0, 1, 1, 1, -9, -9, -9);
        planned(x, 5, 1, 5, 0, 1, 2, 3, 4, -9, -9, -9, -9);
        planned(x, 5, 2, 9, 0, 0, 1, 1, 2, 2, 3, 3, 4);
        planned(x, 5, 9, 9, 0, 0, 0, 0, 0, 0, 0, 0, 0);
        RottenSeats y = willing(18, 0, 0, 0);
        planned(y, 1, 9, 0, -9, -9, -9);
        planned(y, 4, 9, 3, 1, 1, 1);
        planned(y, 4, 1, 1, 1, -9, -9);
        planned(y, 5, 1, 2, 1, 4, -9);
    }

    private static void promise37Hung() {
        RottenSeats x = willing(31, 0, 1, 2);
        planned(x, 1, 2, 2, 0, 0, -9);
        planned(x, 3, 1, 3, 0, 1, 2);
        x.want(0, 1, -1);
        planned(x, 5, 9, 1, 0, -9, -9);
        x.want(0, 1, 1);
        x.want(0, 0, 0);
        planned(x, 5, 9, 0, -9, -9, -9);
        // 2 hangs on both; 1 is carried on night 1 alone.
        RottenSeats y = willing(1, 0, 0, 3);
        for (int i = 0; i < 5; i++) {
            y.member(1, 0);
            y.member(2, 0);
        }
        y.read(1, 2);
        y.want(1, 1, -1);
        y.there(1, 0, 5, 5);
        planned(y, 5, 9, 1, 0, -9, -9);
        y.read(2, 7);
        y.want(2, 0, 1);
        y.want(2, 1, 1);
        y.want(2, 2, 1);
        y.there(2, 1, 1, 1);
        planned(y, 1, 9, 1, 0, -9, -9);
        planned(y, 2, 9, 3, 0, 1, 1);
        planned(y, 2, 1, 2, 0, 1, -9);
        y.there(2, 2, 1, 1);
        planned(y, 3, 1, 3, 0, 1, 2);
    }

    private static void promise38First() {
        // Line by line the least night: 0 goes first though 1 could be there ahead of it.
        RottenSeats x = willing(3, 0, 0, 0);
        planned(x, 2, 1, 2, 0, 1, -9);
        planned(x, 2, 2, 3, 0, 0, 1);
        // Line 0 is wanted on night 1 alone, so 1 and 2 take night 0.
        for (int i = 0; i < 9; i++) {
            x.member(1, 0);
        }
        x.read(1, 1);
        x.want(1, 0, -1);
        x.there(1, 0, 9, 9);
        planned(x, 2, 1, 2, 1, 0, -9);
        planned(x, 2, 2, 3, 1, 0, 0);
        planned(x, 1, 2, 2, -9, 0, 0);
    }

    private static void promise38MostAheadOfFirst() {
        // One a night: 0 could be on night 0, but only so many are brought if it waits.
        RottenSeats x = willing(3, 0, 0);
        for (int i = 0; i < 9; i++) {
            x.member(1, 0);
        }
        x.read(1, 2);
        x.want(1, 1, -1);
        x.there(1, 1, 9, 9);
        planned(x, 2, 1, 2, 1, 0);
        planned(x, 1, 1, 1, 0, -9);
        planned(x, 2, 2, 2, 0, 0);
        // 0 is left out where two others that hang together can be brought in its stead.
        RottenSeats y = willing(1, 0, 0, 2);
        planned(y, 1, 1, 1, 0, -9, -9);
        planned(y, 1, 2, 2, 0, 0, -9);
        planned(y, 1, 3, 3, 0, 0, 0);
    }

    private static void promise37Refusals() {
        RottenSeats x = new RottenSeats();
        Due.due("nights(0, 10)", x.nights(0, 10), -4);
        Due.due("nights(6, 0)", x.nights(6, 0), -4);
        Due.due("nights(-1, 1)", x.nights(-1, 1), -4);
        Due.due("nights(6, 1)", x.nights(6, 1), -6);
        Due.due("nights(1, 10)", x.nights(1, 10), -6);
        Due.due("nights(5, 9)", x.nights(5, 9), 0);
        Due.refusals("after nights", x, 0, 0, 0, 3, 0, 2);
    }

    private static void promise38Refusals() {
        RottenSeats x = new RottenSeats();
        Due.due("nightOf no line", x.nightOf(0, 10, 0), -1);
        World.lines(x, 0);
        Due.due("nightOf -1", x.nightOf(0, 10, -1), -1);
        Due.due("nightOf 1", x.nightOf(6, 10, 1), -1);
        Due.due("nightOf(0, 10, 0)", x.nightOf(0, 10, 0), -4);
        Due.due("nightOf(6, 0, 0)", x.nightOf(6, 0, 0), -4);
        Due.due("nightOf(6, 1, 0)", x.nightOf(6, 1, 0), -6);
        Due.due("nightOf(1, 10, 0)", x.nightOf(1, 10, 0), -6);
        Due.due("nightOf(5, 9, 0)", x.nightOf(5, 9, 0), -9);
        Due.refusals("after nightOf", x, 3, 0, 0, 2, 0, 2);
    }
}
