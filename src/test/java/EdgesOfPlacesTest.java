/** Where promises 1 to 8 end: a new object, days, places, rolls and the list. */
public final class EdgesOfPlacesTest {
    private static final int MIN = Integer.MIN_VALUE;
    private static final int MAX = Integer.MAX_VALUE;

    public static void main(String[] args) {
        promise1Counts();
        promise1Calls();
        promise1CallsOfTheBill();
        promise2Least();
        promise2Greatest();
        promise2Overflow();
        promise3Seats();
        promise3Patron();
        promise3Room();
        promise4Place();
        promise4What();
        promise4Day();
        promise4Number();
        promise4Wrong();
        promise4Room();
        promise5Without();
        promise5Day();
        promise5Known();
        promise5Latest();
        promise5ToldLast();
        promise5Refusals();
        promise6Weights();
        promise6First();
        promise7Score();
        promise7Least();
        promise7LeastRank();
        promise7GreatestRank();
        promise7List();
        promise7Ranks();
        promise7Refusals();
        promise8None();
        promise8Refusals();
        Due.end();
    }

    private static RottenSeats fresh() {
        return new RottenSeats();
    }

    /** Places that send 1, without a patron. */
    private static RottenSeats places(int many) {
        RottenSeats x = new RottenSeats();
        for (int i = 0; i < many; i++) {
            x.place(1, -1);
        }
        return x;
    }

    private static void promise1Counts() {
        Due.says("DAY 0; nothing.");
        for (int what = 0; what <= 17; what++) {
            Due.due("count(" + what + ") of a new object", fresh().count(what), 0);
        }
        Due.due("count(-1) of a new object", fresh().count(-1), -9);
        Due.due("count(18) of a new object", fresh().count(18), -9);
    }

    private static void promise1Calls() {
        Due.says("DAY 0; nothing.");
        Due.due("days(1)", fresh().days(1), 1);
        Due.due("place(0, -1)", fresh().place(0, -1), 0);
        Edge.refusedWhenNew("roll", -1, x -> x.roll(0, 0, 0, 0, 0));
        Edge.refusedWhenNew("number", -1, x -> x.number(0, 0, 0, 0, false));
        Edge.refusedWhenNew("list", -1, x -> x.list(0, 0, 0, 0));
        Due.due("ranked(0, 0, 0)", fresh().ranked(0, 0, 0), -9);
        Edge.refusedWhenNew("person", -1, x -> x.person(0, 0, 0, -1));
        Edge.refusedWhenNew("gone", -1, x -> x.gone(0));
        Edge.refusedWhenNew("right", -1, x -> x.right(0, 0, 0, 0, 0));
        Edge.refusedWhenNew("end", -1, x -> x.end(0));
        Due.due("feed(1, 0)", fresh().feed(1, 0), 1);
        Due.due("text(false)", fresh().text(false), -20);
        Due.due("text(true)", fresh().text(true), -20);
        Edge.refusedWhenNew("old", -1, x -> x.old(0, 0, 0));
        Edge.refusedWhenNew("may", -1, x -> x.may(0, 0, 0, 0));
        Edge.refusedWhenNew("furrows", -1, x -> x.furrows(0, 0, 0));
        Edge.refusedWhenNew("sell", -1, x -> x.sell(0, 0, 0, 0));
        Edge.refusedWhenNew("twice", -1, x -> x.twice(0));
        Edge.refusedWhenNew("base", -1, x -> x.base(0, 0));
        Edge.refusedWhenNew("worth", -1, x -> x.worth(0, 1, 0));
        Edge.refusedWhenNew("fact", -1, x -> x.fact(0, 0, 0));
        Edge.refusedWhenNew("ends", -1, x -> x.ends(0, 0));
    }

    private static void promise1CallsOfTheBill() {
        Due.says("DAY 0; nothing.");
        Due.due("member(0, 0)", fresh().member(0, 0), 0);
        Edge.refusedWhenNew("lot", -3, x -> x.lot(0, 0));
        Due.due("line(0, 1, 0, 0)", fresh().line(0, 1, 0, 0), 0);
        Edge.refusedWhenNew("line of a text", -1, x -> x.line(2, 1, 0, 0));
        Edge.refusedWhenNew("line that hangs", -3, x -> x.line(0, 1, 0, 1));
        Due.due("stands(0)", fresh().stands(0), 0);
        Due.due("stands(1)", fresh().stands(1), -9);
        Edge.refusedWhenNew("falls", -1, x -> x.falls(0));
        Edge.refusedWhenNew("under", -1, x -> x.under(0, 0, 0, 0));
        Edge.refusedWhenNew("gain", 1000000001, x -> x.gain(0, 0, 0));
        Due.due("divide(0, 0, 0)", fresh().divide(0, 0, 0), 0);
        Due.due("divide(0, 4, 1)", fresh().divide(0, 4, 1), 0);
        Edge.refusedWhenNew("divide of a line", 1000000001, x -> x.divide(1, 0, 0));
        Due.due("carry(0, 0)", fresh().carry(0, 0), -9);
        Due.due("carry(0, 8)", fresh().carry(0, 8), 0);
        Due.due("nights(5, 9)", fresh().nights(5, 9), 0);
        Edge.refusedWhenNew("nightOf", -1, x -> x.nightOf(1, 1, 0));
        Edge.refusedWhenNew("elect", -1, x -> x.elect(0, 0, 0, 0));
        Due.due("put(0)", fresh().put(0), 1);
        Due.due("check(0, 0)", fresh().check(0, 0), -9);
        Edge.refusedWhenNew("check of a line", -1, x -> x.check(1, 0));
    }

    private static void promise2Least() {
        Due.says("n (1 on) DAYS pass: DAY. -4; -6.");
        Edge.least("days", 1, -4, (x, n) -> x.days(n));
        RottenSeats x = fresh();
        Due.due("days(1)", x.days(1), 1);
        Due.due("days(0)", x.days(0), -4);
        Due.due("days(2)", x.days(2), 3);
        Due.due("count(0)", x.count(0), 3);
    }

    private static void promise2Greatest() {
        Due.says("DAYS go on from 0 (2000 at most)");
        Edge.greatest("days from 500 on", 1500, -6, (x, n) -> x.days(n));
        Due.due("days(2001) from 0 on", fresh().days(2001), -6);
        RottenSeats x = fresh();
        Due.due("days(2000) from 0 on", x.days(2000), 2000);
        Due.due("days(1) on the last day", x.days(1), -6);
        Due.due("days(0) on the last day", x.days(0), -4);
        Due.due("count(0) on the last day", x.count(0), 2000);
        RottenSeats y = fresh();
        Due.due("days(1999)", y.days(1999), 1999);
        Due.due("days(2) on the last day but one", y.days(2), -6);
        Due.due("days(1) on the last day but one", y.days(1), 2000);
    }

    private static void promise2Overflow() {
        Due.says("DAYS go on from 0 (2000 at most)");
        for (int day : new int[] {1, 2, 1999, 2000}) {
            RottenSeats x = fresh();
            x.days(day);
            // A sum of both as an int is below 0.
            Due.due("days(MAX) on day " + day, x.days(MAX), -6);
            Due.due("days(MIN) on day " + day, x.days(MIN), -4);
            Due.due("count(0) on day " + day, x.count(0), day);
        }
    }

    private static void promise3Seats() {
        Due.says("SEATS it sends (0 .. 2)");
        Edge.range("seats", 0, -4, 2, -6, (x, v) -> x.place(v, 0));
        for (int seats = 0; seats <= 2; seats++) {
            RottenSeats x = fresh();
            x.place(seats, -1);
            Due.due("seats of one that sends " + seats, x.under(0, 0, 0, 0), seats);
        }
    }

    private static void promise3Patron() {
        Due.says("a PATRON (0 .. 5; -1 none)");
        Edge.range("patron", -1, -1, 5, -1, (x, v) -> x.place(0, v));
        Due.says("A PLACE: its number. -1 PATRON; -4; -6 (SEATS; 16, too).");
        Edge.refused("place(-1, -2)", -1, x -> x.place(-1, -2));
        Edge.refused("place(3, 6)", -1, x -> x.place(3, 6));
        Edge.refused("place(MIN, MAX)", -1, x -> x.place(MIN, MAX));
    }

    private static void promise3Room() {
        Due.says("PLACES have numbers from 0 on (16 at most)");
        RottenSeats x = fresh();
        for (int i = 0; i < 16; i++) {
            Due.due("place no " + i, x.place(1, -1), i);
        }
        Due.due("one place more", x.place(0, 0), -6);
        Due.due("count(1)", x.count(1), 16);
        Due.due("the last place", x.list(15, 0, 0, 1), 15);
        Due.due("one behind the last", x.list(16, 0, 0, 1), -1);
        Due.says("A PLACE: its number. -1 PATRON; -4; -6 (SEATS; 16, too).");
        Edge.refusedWhenFull("one place more", -6, y -> y.place(2, 5));
        Edge.refusedWhenFull("one more, seats below", -4, y -> y.place(-1, 5));
        Edge.refusedWhenFull("one more, no patron", -1, y -> y.place(2, 6));
    }

    private static void promise4Place() {
        Due.says("A ROLL: how many there are. -1;");
        Edge.among("roll in a place", 0, 2, -1, (x, v) -> x.roll(v, 0, 0, 0, 0));
        Edge.refused("roll(3, 2, -1, 10000, 1000)", -1, x -> x.roll(3, 2, -1, 10000, 1000));
        Edge.refused("roll(-1, -1, 501, -1, -1)", -1, x -> x.roll(-1, -1, 501, -1, -1));
    }

    private static void promise4What() {
        Due.says("-2 what (0 HOUSES, 1 TAXES)");
        Edge.among("what of a roll", 0, 1, -2, (x, v) -> x.roll(0, v, 0, 0, 0));
        Edge.refused("roll(0, 2, -1, 10000, 1000)", -2, x -> x.roll(0, 2, -1, 10000, 1000));
        Edge.refused("roll(0, -1, 501, -1, -1)", -2, x -> x.roll(0, -1, 501, -1, -1));
        RottenSeats x = places(1);
        x.roll(0, 0, 0, 3, 1);
        Due.due("houses told", x.number(0, 0, 0, 0, false), 3);
        Due.due("taxes not told", x.number(0, 1, 0, 0, false), 0);
    }

    private static void promise4Day() {
        Due.says("told as of a DAY of the roll (not behind now), known from now on");
        Edge.range("day of a roll", 0, -4, 500, -6, (x, v) -> x.roll(0, 0, v, 0, 0));
        Edge.range("day of a roll when new", 0, -4, 500, -6, (x, v) -> x.roll(0, 1, v, 0, 0));
        RottenSeats x = places(1);
        x.days(10);
        x.roll(0, 0, 0, 7, 0);
        Due.due("known a day ahead of its telling", x.number(0, 0, 10, 9, false), 0);
        Due.due("known on the day of its telling", x.number(0, 0, 10, 10, false), 7);
        Due.due("known on the last day", x.number(0, 0, 10, 2000, false), 7);
    }

    private static void promise4Number() {
        Due.says("HOUSES and TAXES of a PLACE (0 .. 9999 each; 0 without)");
        Edge.range("houses", 0, -4, 9999, -6, (x, v) -> x.roll(0, 0, 0, v, 0));
        Edge.range("taxes", 0, -4, 9999, -6, (x, v) -> x.roll(0, 1, 0, v, 0));
        RottenSeats x = places(1);
        x.roll(0, 0, 0, 9999, 0);
        x.roll(0, 1, 0, 9999, 0);
        Due.due("the most houses", x.number(0, 0, 0, 0, false), 9999);
        Due.due("the most taxes", x.number(0, 1, 0, 0, false), 9999);
        x.roll(0, 0, 0, 0, 0);
        Due.due("no houses", x.number(0, 0, 0, 0, false), 0);
    }

    private static void promise4Wrong() {
        Due.says("by how much it may be WRONG (0 .. 999)");
        Edge.range("wrong", 0, -4, 999, -6, (x, v) -> x.roll(0, 0, 0, 0, v));
        RottenSeats x = places(1);
        x.roll(0, 0, 0, 0, 999);
        Due.due("the most wrong", x.number(0, 0, 0, 0, true), 999);
        Due.says("-4; -6 (DAY behind now; 120, too).");
        Edge.refused("a day below, the rest above", -4, y -> y.roll(0, 0, -1, 10000, 1000));
        Edge.refused("a number below, the rest above", -4, y -> y.roll(0, 0, 501, -1, 1000));
        Edge.refused("wrong below, the rest above", -4, y -> y.roll(0, 0, 501, 10000, -1));
    }

    private static void promise4Room() {
        Due.says("-6 (DAY behind now; 120, too).");
        RottenSeats x = places(16);
        for (int i = 1; i <= 120; i++) {
            Due.due("roll no " + i, x.roll(i % 16, i % 2, 0, i, 0), i);
        }
        Due.due("one roll more", x.roll(0, 0, 0, 5, 0), -6);
        Due.due("count(2)", x.count(2), 120);
        Due.due("the last roll", x.number(8, 0, 0, 0, false), 120);
        Edge.refusedWhenFull("one roll more", -6, y -> y.roll(15, 1, 0, 0, 0));
        Edge.refusedWhenFull("one more, a number below", -4, y -> y.roll(15, 1, 0, -1, 0));
        Edge.refusedWhenFull("one more, another what", -2, y -> y.roll(15, 2, 0, -1, 0));
        Edge.refusedWhenFull("one more, no place", -1, y -> y.roll(16, 2, 0, -1, 0));
    }

    private static void promise5Without() {
        Due.says("NUMBER (wrong false), WRONG (true; 0 without).");
        RottenSeats x = places(2);
        x.days(9);
        x.roll(0, 0, 5, 44, 3);
        Due.due("number without a roll", x.number(1, 0, 9, 9, false), 0);
        Due.due("wrong without a roll", x.number(1, 0, 9, 9, true), 0);
        Due.due("number of taxes without", x.number(0, 1, 9, 9, false), 0);
        Due.due("wrong of taxes without", x.number(0, 1, 9, 9, true), 0);
        Due.due("number ahead of the roll", x.number(0, 0, 4, 9, false), 0);
        Due.due("wrong ahead of the roll", x.number(0, 0, 4, 9, true), 0);
        Due.due("wrong of the roll", x.number(0, 0, 5, 9, true), 3);
    }

    private static void promise5Day() {
        Due.says("of those of DAYS not behind j");
        RottenSeats x = places(1);
        x.days(2000);
        x.roll(0, 0, 0, 1, 0);
        x.roll(0, 0, 1000, 2, 0);
        x.roll(0, 0, 2000, 3, 0);
        int[][] numbers = {{0, 1}, {999, 1}, {1000, 2}, {1001, 2}, {1999, 2}, {2000, 3}};
        for (int[] of : numbers) {
            Due.due("number on " + of[0], x.number(0, 0, of[0], 2000, false), of[1]);
        }
    }

    private static void promise5Known() {
        Due.says("that were told by K");
        RottenSeats x = places(1);
        x.roll(0, 0, 0, 1, 0);
        x.days(1000);
        x.roll(0, 0, 0, 2, 0);
        x.days(1000);
        x.roll(0, 0, 0, 3, 0);
        int[][] numbers = {{0, 1}, {999, 1}, {1000, 2}, {1001, 2}, {1999, 2}, {2000, 3}};
        for (int[] of : numbers) {
            Due.due("number as known on " + of[0], x.number(0, 0, 0, of[0], false), of[1]);
        }
    }

    private static void promise5Latest() {
        Due.says("the one of the latest DAY");
        RottenSeats x = places(1);
        x.days(10);
        x.roll(0, 0, 10, 5, 1);
        x.roll(0, 0, 9, 6, 2);
        x.days(1);
        x.roll(0, 0, 0, 7, 3);
        Due.due("the latest day, told first", x.number(0, 0, 10, 11, false), 5);
        Due.due("wrong by the latest day", x.number(0, 0, 10, 11, true), 1);
        Due.due("the latest not behind 9", x.number(0, 0, 9, 11, false), 6);
        Due.due("the latest not behind 8", x.number(0, 0, 8, 11, false), 7);
        Due.due("the latest not behind 8, known on 10", x.number(0, 0, 8, 10, false), 0);
    }

    private static void promise5ToldLast() {
        Due.says("of several the one told last");
        RottenSeats x = places(1);
        x.roll(0, 0, 0, 5, 1);
        x.roll(0, 0, 0, 6, 2);
        Due.due("told last on one day", x.number(0, 0, 0, 0, false), 6);
        Due.due("wrong as told last", x.number(0, 0, 0, 0, true), 2);
        x.days(1);
        x.roll(0, 0, 0, 4, 0);
        Due.due("told last of three", x.number(0, 0, 0, 1, false), 4);
        Due.due("told last by day 0", x.number(0, 0, 0, 0, false), 6);
    }

    private static void promise5Refusals() {
        Due.says("-1; -2; -4; -6 (j, k 0 .. 2000).");
        Edge.among("number of a place", 0, 2, -1, (x, v) -> x.number(v, 0, 0, 0, false));
        Edge.among("what of a number", 0, 1, -2, (x, v) -> x.number(0, v, 0, 0, true));
        Edge.range("j of a number", 0, -4, 2000, -6, (x, v) -> x.number(0, 0, v, 0, false));
        Edge.range("k of a number", 0, -4, 2000, -6, (x, v) -> x.number(0, 0, 0, v, true));
        Edge.refused("no place ahead of what", -1, x -> x.number(3, 2, -1, 2001, false));
        Edge.refused("what ahead of below", -2, x -> x.number(0, 2, -1, 2001, false));
        Edge.refused("k below ahead of j above", -4, x -> x.number(0, 0, 2001, -1, false));
        Edge.refused("j below ahead of k above", -4, x -> x.number(0, 0, -1, 2001, false));
    }

    private static void promise6Weights() {
        Due.says("A (what 0), B (1): what it was. -2; -4; -6.");
        Edge.among("what of a weight", 0, 1, -2, (x, v) -> x.weigh(v, 0));
        Edge.range("a", 0, -4, 99, -6, (x, v) -> x.weigh(0, v));
        Edge.range("b", 0, -4, 99, -6, (x, v) -> x.weigh(1, v));
        Edge.refused("what ahead of below", -2, x -> x.weigh(2, -1));
        Edge.refused("what ahead of above", -2, x -> x.weigh(-1, 100));
    }

    private static void promise6First() {
        Due.says("HOUSES times A and TAXES times B (0 .. 99 each; 1 at first)");
        RottenSeats x = fresh();
        Due.due("a at first", x.weigh(0, 99), 1);
        Due.due("b at first", x.weigh(1, 0), 1);
        Due.due("b was 0", x.weigh(1, 99), 0);
        Due.due("a was 99", x.weigh(0, 0), 99);
        Due.due("a was 0", x.weigh(0, 1), 0);
    }

    private static void promise7Score() {
        Due.says("HOUSES times A and TAXES times B (0 .. 99 each; 1 at first)");
        RottenSeats x = places(1);
        x.roll(0, 0, 0, 9999, 999);
        x.roll(0, 1, 0, 9998, 999);
        Due.due("both weigh 1", x.list(0, 0, 0, 0), 19997);
        x.weigh(0, 99);
        Due.due("a 99", x.list(0, 0, 0, 0), 999899);
        x.weigh(1, 99);
        Due.due("both weigh 99", x.list(0, 0, 0, 0), 1979703);
        x.weigh(0, 0);
        Due.due("a 0", x.list(0, 0, 0, 0), 989802);
        x.weigh(1, 0);
        Due.due("both weigh 0", x.list(0, 0, 0, 0), 0);
    }

    private static void promise7Least() {
        Due.says("each NUMBER less and more WRONG (0 at least)");
        RottenSeats x = places(2);
        x.roll(0, 0, 0, 5, 9);
        x.roll(0, 1, 0, 10, 0);
        x.roll(1, 1, 0, 9, 0);
        // 5 less 9 is 0, not 4 off the taxes: LEAST 10 is above 9
        Due.due("least rank", x.list(0, 0, 0, 2), 1);
        x.roll(1, 1, 0, 10, 0);
        Due.due("least rank beside 10", x.list(0, 0, 0, 2), 0);
        x.roll(0, 0, 0, 5, 4);
        Due.due("least rank of 1 and 10", x.list(0, 0, 0, 2), 1);
        x.roll(0, 0, 0, 5, 5);
        Due.due("least rank of 0 and 10", x.list(0, 0, 0, 2), 0);
        // The taxes' own LEAST, as well.
        x.roll(0, 1, 0, 3, 8);
        x.roll(0, 0, 0, 10, 0);
        x.roll(1, 1, 0, 9, 0);
        Due.due("least rank by houses", x.list(0, 0, 0, 2), 1);
    }

    private static void promise7LeastRank() {
        Due.says("how many PLACES' GREATEST is below its LEAST");
        RottenSeats x = places(3);
        x.roll(0, 0, 0, 20, 3);
        x.roll(1, 0, 0, 14, 3);
        x.roll(2, 0, 0, 9999, 0);
        Due.due("17 is not below 17", x.list(0, 0, 0, 2), 0);
        x.roll(1, 0, 0, 14, 2);
        Due.due("16 is below 17", x.list(0, 0, 0, 2), 1);
        x.roll(0, 0, 0, 20, 4);
        Due.due("16 is not below 16", x.list(0, 0, 0, 2), 0);
        Due.due("both are below 9999", x.list(2, 0, 0, 2), 2);
        x.roll(1, 0, 0, 9999, 999);
        Due.due("10998 is not below 9999", x.list(2, 0, 0, 2), 1);
    }

    private static void promise7GreatestRank() {
        Due.says("how many others' LEAST is not above its GREATEST");
        RottenSeats x = places(3);
        x.roll(0, 0, 0, 10, 4);
        x.roll(1, 0, 0, 20, 6);
        x.roll(2, 0, 0, 9999, 0);
        Due.due("14 is not above 14", x.list(0, 0, 0, 3), 1);
        x.roll(1, 0, 0, 20, 5);
        Due.due("15 is above 14", x.list(0, 0, 0, 3), 0);
        x.roll(0, 0, 0, 10, 5);
        Due.due("15 is not above 15", x.list(0, 0, 0, 3), 1);
        Due.due("all others are not above 9999", x.list(2, 0, 0, 3), 2);
        Due.due("others, not the place itself", places(1).list(0, 0, 0, 3), 0);
        x.roll(0, 0, 0, 9900, 100);
        Due.due("9999 is not above 10000", x.list(0, 0, 0, 3), 2);
    }

    private static void promise7List() {
        Due.says("PLACES by SCORE, the least first, of several the least number.");
        RottenSeats x = places(3);
        x.roll(0, 0, 0, 8, 0);
        x.roll(1, 0, 0, 7, 0);
        x.roll(2, 1, 0, 7, 0);
        int[] ranks = {2, 0, 1};
        for (int place = 0; place < 3; place++) {
            Due.due("rank of " + place, x.list(place, 0, 0, 1), ranks[place]);
            Due.due("place of rank " + ranks[place], x.ranked(ranks[place], 0, 0), place);
        }
        x.weigh(1, 0);
        Due.due("first by houses alone", x.ranked(0, 0, 0), 2);
    }

    private static void promise7Ranks() {
        Due.says("how many stand ahead of one");
        RottenSeats x = places(16);
        for (int place = 0; place < 16; place++) {
            Due.due("rank of " + place + " of 16 alike", x.list(place, 0, 0, 1), place);
        }
        x.roll(0, 0, 0, 1, 0);
        Due.due("rank of the one that counts", x.list(0, 0, 0, 1), 15);
        Due.due("rank of the first of the rest", x.list(1, 0, 0, 1), 0);
        Due.due("the most that surely stand ahead", x.list(0, 0, 0, 2), 15);
        Due.due("the most that may stand ahead", x.list(0, 0, 0, 3), 15);
        Due.due("the most that may stand ahead of 1", x.list(1, 0, 0, 3), 14);
    }

    private static void promise7Refusals() {
        Due.says("2, 3 least, greatest RANK in which it MAY STAND. -1; -2; -4; -6.");
        Edge.among("list of a place", 0, 2, -1, (x, v) -> x.list(v, 0, 0, 0));
        Edge.among("what of the list", 0, 3, -2, (x, v) -> x.list(0, 0, 0, v));
        Edge.range("j of the list", 0, -4, 2000, -6, (x, v) -> x.list(0, v, 0, 1));
        Edge.range("k of the list", 0, -4, 2000, -6, (x, v) -> x.list(0, 0, v, 2));
        Edge.refused("no place ahead of what", -1, x -> x.list(3, -1, 2001, 4));
        Edge.refused("what ahead of below", -2, x -> x.list(0, -1, 2001, 4));
        Edge.refused("k below ahead of j above", -4, x -> x.list(0, 2001, -1, 0));
        Edge.refused("j below ahead of k above", -4, x -> x.list(0, -1, 2001, 3));
    }

    private static void promise8None() {
        Due.says("The PLACE of a RANK on j as known on K; -9 none.");
        for (int many : new int[] {0, 1, 16}) {
            RottenSeats x = places(many);
            for (int rank : new int[] {MIN, -9, -1, many, many + 1, MAX}) {
                Due.due("rank " + rank + " of " + many, x.ranked(rank, 0, 0), -9);
            }
            if (many > 0) {
                Due.due("first of " + many, x.ranked(0, 0, 0), 0);
                Due.due("last of " + many, x.ranked(many - 1, 0, 0), many - 1);
            }
            Due.due("refusals", World.refusals(x), 0);
        }
    }

    private static void promise8Refusals() {
        Due.says("-9 none. -4 j, k; -6.");
        Edge.range("j of a rank", 0, -4, 2000, -6, (x, v) -> x.ranked(0, v, 0));
        Edge.range("k of a rank", 0, -4, 2000, -6, (x, v) -> x.ranked(0, 0, v));
        Edge.refused("k below ahead of j above", -4, x -> x.ranked(-1, 2001, -1));
        Edge.refused("j below ahead of k above", -4, x -> x.ranked(99, -1, 2001));
        Edge.refused("j above, no such rank", -6, x -> x.ranked(99, 2001, 0));
    }
}
