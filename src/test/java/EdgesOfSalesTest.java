import java.util.Arrays;

/** Where promises 18 to 21 end: sales, seats sold twice, and what a seat is worth. */
public final class EdgesOfSalesTest {
    private static final int MIN = Integer.MIN_VALUE;
    private static final int MAX = Integer.MAX_VALUE;

    public static void main(String[] args) {
        promise18Place();
        promise18From();
        promise18To();
        promise18Price();
        promise18Order();
        promise18Room();
        promise19One();
        promise19OneInALine();
        promise19Two();
        promise19TwoOnADay();
        promise19None();
        promise19First();
        promise19OtherPlaces();
        promise19Greatest();
        promise19Refusals();
        promise20First();
        promise20Base();
        promise21Years();
        promise21Standing();
        promise21Cut();
        promise21Twentieth();
        promise21AtLeast();
        promise21Now();
        promise21Order();
        Due.end();
    }

    /** One place that sends so many, and sales of its seat: a row of first and last days. */
    private static RottenSeats sold(int seats, int... days) {
        RottenSeats x = new RottenSeats();
        x.place(seats, -1);
        for (int i = 0; i < days.length; i += 2) {
            x.sell(0, days[i], days[i + 1], 1);
        }
        return x;
    }

    private static void twice(int want, int seats, int... days) {
        Due.due("twice of " + seats + " seats, " + Arrays.toString(days), sold(seats, days).twice(0), want);
    }

    private static void promise18Place() {
        Due.says("A SALE: its number. -1; -4 (to ahead of from, too); -6 (DAYS 0 .. 9999; 30, too).");
        Edge.among("sale of a place", 0, 2, -1, (x, v) -> x.sell(v, 0, 0, 0));
        Edge.refused("no place ahead of below", -1, x -> x.sell(3, -1, -2, -1));
        Edge.refused("no place ahead of above", -1, x -> x.sell(-1, 10000, 10000, 10000));
    }

    private static void promise18From() {
        Due.says("-6 (DAYS 0 .. 9999; 30, too)");
        Edge.least("from of a sale", 0, -4, (x, v) -> x.sell(0, v, 9999, 0));
        Edge.greatest("from and to of a sale", 9999, -6, (x, v) -> x.sell(0, v, v, 0));
        twice(1, 1, 0, 0, 0, 9999);
        twice(1, 1, 9999, 9999, 0, 9999);
        twice(-9, 1, 0, 9998, 9999, 9999);
    }

    private static void promise18To() {
        Due.says("-4 (to ahead of from, too)");
        Edge.range("to of a sale from 0 on", 0, -4, 9999, -6, (x, v) -> x.sell(0, 0, v, 0));
        Edge.range("to of a sale from 77 on", 77, -4, 9999, -6, (x, v) -> x.sell(0, 77, v, 0));
        Edge.range("to of a sale from 9999 on", 9999, -4, 9999, -6, (x, v) -> x.sell(0, 9999, v, 0));
        Edge.refused("to ahead of a from above", -4, x -> x.sell(0, 10000, 9999, 0));
        Edge.refused("to ahead of the greatest int", -4, x -> x.sell(0, MAX, 0, 0));
        Edge.refused("from and to below", -4, x -> x.sell(0, MIN, MAX, 0));
    }

    private static void promise18Price() {
        Due.says("at a price (0 .. 9999)");
        Edge.range("price", 0, -4, 9999, -6, (x, v) -> x.sell(0, 0, 0, v));
    }

    private static void promise18Order() {
        Due.says("A SALE: its number. -1; -4 (to ahead of from, too); -6 (DAYS 0 .. 9999; 30, too).");
        Edge.refused("from below ahead of to above", -4, x -> x.sell(0, -1, 10000, 10000));
        Edge.refused("to ahead of from, price above", -4, x -> x.sell(0, 5, 4, 10000));
        Edge.refused("price below ahead of to above", -4, x -> x.sell(0, 0, 10000, -1));
    }

    private static void promise18Room() {
        Due.says("SALES (30 at most)");
        RottenSeats x = sold(1);
        for (int i = 0; i < 30; i++) {
            Due.due("sale no " + i, x.sell(0, i < 29 ? i : 7, i < 29 ? i : 7, 0), i);
        }
        Due.due("one sale more", x.sell(0, 0, 9999, 0), -6);
        Due.due("count(9)", x.count(9), 30);
        Due.due("the last is the first sold twice", x.twice(0), 29);
        Edge.refusedWhenFull("one sale more", -6, y -> y.sell(15, 0, 0, 0));
        Edge.refusedWhenFull("one more, price below", -4, y -> y.sell(15, 0, 0, -1));
        Edge.refusedWhenFull("one more, no place", -1, y -> y.sell(16, 0, 0, -1));
    }

    private static void promise19One() {
        Due.says("the first SALE that shares a DAY with one told ahead of it, of PLACES that send 1");
        twice(-9, 1);
        twice(-9, 1, 5, 9);
        twice(-9, 1, 5, 9, 10, 12);
        twice(1, 1, 5, 9, 9, 12);
        twice(-9, 1, 5, 9, 0, 4);
        twice(1, 1, 5, 9, 0, 5);
        twice(1, 1, 5, 9, 6, 8);
        twice(1, 1, 6, 8, 5, 9);
        twice(1, 1, 7, 7, 7, 7);
        twice(-9, 1, 7, 7, 8, 8);
        twice(-9, 1, 7, 7, 6, 6);
    }

    private static void promise19OneInALine() {
        Due.says("the first SALE that shares a DAY with one told ahead of it");
        twice(3, 1, 0, 9, 20, 29, 10, 19, 29, 30, 9, 10);
        twice(2, 1, 0, 9, 20, 29, 5, 25);
        twice(4, 1, 0, 9, 20, 29, 10, 19, 30, 39, 0, 9999);
    }

    private static void promise19Two() {
        Due.says("of those that send 2: with two on a DAY that all three share");
        twice(-9, 2);
        twice(-9, 2, 0, 9);
        twice(-9, 2, 0, 9, 0, 9);
        twice(2, 2, 0, 9, 0, 9, 0, 9);
        twice(2, 2, 0, 9, 5, 14, 9, 20);
        twice(-9, 2, 0, 9, 5, 14, 10, 20);
        twice(2, 2, 0, 9, 5, 14, 0, 5);
        twice(-9, 2, 0, 9, 5, 14, 0, 4);
        twice(2, 2, 3, 3, 0, 9, 3, 3);
        twice(-9, 2, 3, 3, 4, 4, 3, 4);
    }

    private static void promise19TwoOnADay() {
        Due.says("with two on a DAY that all three share");
        // Each two of the three share a day, but not one that all three do.
        twice(-9, 2, 0, 4, 6, 9, 3, 7);
        twice(3, 2, 0, 4, 6, 9, 3, 7, 7, 7);
        twice(3, 2, 0, 4, 6, 9, 3, 7, 4, 4);
        twice(-9, 2, 0, 4, 6, 9, 3, 7, 5, 5);
        twice(4, 2, 0, 4, 6, 9, 3, 7, 5, 5, 5, 5);
    }

    private static void promise19None() {
        Due.says("of 0: any");
        twice(-9, 0);
        twice(0, 0, 0, 0);
        twice(0, 0, 9999, 9999, 0, 0);
        RottenSeats x = sold(0);
        x.place(1, -1);
        x.sell(1, 0, 0, 0);
        Due.due("none of this place", x.twice(0), -9);
        x.sell(0, 3, 3, 0);
        Due.due("the first of this place", x.twice(0), 1);
    }

    private static void promise19First() {
        Due.says("SOLD TWICE of a PLACE: the SALE; -9 none. -1.");
        RottenSeats x = sold(1);
        x.place(1, -1);
        x.sell(0, 0, 9, 0);
        x.sell(1, 0, 9, 0);
        Due.due("twice(0): one of each place", x.twice(0), -9);
        Due.due("twice(1): one of each place", x.twice(1), -9);
        x.sell(1, 9, 9, 0);
        x.sell(0, 9, 9, 0);
        x.sell(0, 0, 0, 0);
        Due.due("twice(0)", x.twice(0), 3);
        Due.due("twice(1)", x.twice(1), 2);
    }

    /** A sale of another place counts nothing, be its number lesser or greater, told ahead or behind. */
    private static void promise19OtherPlaces() {
        Due.says("SALES (30 at most) of a PLACE's seat");
        for (int seats = 1; seats <= 2; seats++) {
            RottenSeats x = sold(seats);
            x.place(seats, -1);
            x.place(seats, -1);
            for (int i = 0; i < 3 * seats; i++) {
                x.sell((i + 2) % 3, 7, 7, 0);
            }
            for (int place = 0; place < 3; place++) {
                Due.due("twice of " + place + ", which sends " + seats, x.twice(place), -9);
            }
            Due.due("one sale more of 1", x.sell(1, 7, 7, 0), 3 * seats);
            int[] twice = {-9, 3 * seats, -9};
            for (int place = 0; place < 3; place++) {
                Due.due("twice of " + place + ", one more of 1", x.twice(place), twice[place]);
            }
        }
    }

    /** 30 sales, no two of which share a day, then the same with the last that does. */
    private static void promise19Greatest() {
        Due.says("with two on a DAY that all three share");
        RottenSeats x = sold(2);
        for (int i = 0; i < 28; i++) {
            x.sell(0, 10 * i, 10 * i + 10, 0);
        }
        Due.due("two share each tenth day", x.twice(0), -9);
        x.sell(0, 1, 9, 0);
        Due.due("two share each day of the first ten", x.twice(0), -9);
        x.sell(0, 9999, 9999, 0);
        Due.due("30 sales", x.twice(0), -9);
        RottenSeats y = sold(2);
        for (int i = 0; i < 29; i++) {
            y.sell(0, 10 * i, 10 * i + 10, 0);
        }
        y.sell(0, 280, 280, 0);
        Due.due("the last of 30 sales", y.twice(0), 29);
    }

    private static void promise19Refusals() {
        Due.says("SOLD TWICE of a PLACE: the SALE; -9 none. -1.");
        Edge.among("twice of a place", 0, 2, -1, (x, v) -> x.twice(v));
        Edge.refusedWhenFull("twice of one behind the last", -1, x -> x.twice(16));
    }

    private static void promise20First() {
        Due.says("BASE (0 .. 999, told for the PLACE; 100 at first)");
        for (int place = 0; place < 16; place++) {
            Due.due("base of " + place, World.full().base(place, 0), 100);
        }
        RottenSeats x = sold(1);
        Due.due("base at first", x.base(0, 0), 100);
        Due.due("base was 0", x.base(0, 999), 0);
        Due.due("base was 999", x.base(0, 1), 999);
        x.place(1, -1);
        Due.due("base of another", x.base(1, 5), 100);
        Due.due("base was 1", x.base(0, 1), 1);
    }

    private static void promise20Base() {
        Due.says("BASE of a PLACE: what it was. -1; -4; -6.");
        Edge.among("base of a place", 0, 2, -1, (x, v) -> x.base(v, 0));
        Edge.range("base", 0, -4, 999, -6, (x, v) -> x.base(0, v));
        Edge.refused("no place ahead of below", -1, x -> x.base(3, -1));
        Edge.refused("no place ahead of above", -1, x -> x.base(-1, 1000));
    }

    private static void promise21Years() {
        Due.says("of YEARS left (1 .. 7)");
        Edge.range("years", 1, -4, 7, -6, (x, v) -> x.worth(0, v, 0));
        RottenSeats x = sold(1);
        x.base(0, 999);
        for (int years = 1; years <= 7; years++) {
            Due.due("worth of " + years, x.worth(0, years, 0), 999 * years);
        }
    }

    private static void promise21Standing() {
        Due.says("STANDING of the bill (0 .. 100)");
        Edge.range("standing", 0, -4, 100, -6, (x, v) -> x.worth(0, 1, v));
        RottenSeats x = sold(1);
        int[][] worths = {{0, 100}, {1, 99}, {50, 50}, {99, 1}, {100, 0}};
        for (int[] of : worths) {
            Due.due("worth with standing " + of[0], x.worth(0, 1, of[0]), of[1]);
        }
    }

    private static void promise21Cut() {
        Due.says("times YEARS times (100 less STANDING) by 100, cut");
        RottenSeats x = sold(1);
        x.base(0, 1);
        Due.due("1 by 1 by 99", x.worth(0, 1, 1), 0);
        Due.due("1 by 1 by 100", x.worth(0, 1, 0), 1);
        Due.due("1 by 2 by 50", x.worth(0, 2, 50), 1);
        Due.due("1 by 2 by 49", x.worth(0, 2, 51), 0);
        // Each part alone would be cut to less.
        Due.due("1 by 7 by 99", x.worth(0, 7, 1), 6);
        Due.due("1 by 7 by 15", x.worth(0, 7, 85), 1);
        Due.due("1 by 7 by 14", x.worth(0, 7, 86), 0);
        x.base(0, 999);
        Due.due("999 by 7 by 1", x.worth(0, 7, 99), 69);
        x.base(0, 0);
        Due.due("base 0", x.worth(0, 7, 0), 0);
    }

    /** A place in which so many may vote. */
    private static RottenSeats voters(int many) {
        RottenSeats x = sold(1);
        Due.text(x, "1=1");
        x.old(0, 0, 0);
        for (int i = 0; i < many; i++) {
            x.person(0, 0, 0, -1);
        }
        return x;
    }

    private static void promise21Twentieth() {
        Due.says("less a twentieth of that (cut) for each PERSON who MAY VOTE there now");
        int[][] worths = {{0, 100, 100}, {1, 100, 95}, {1, 119, 114}, {1, 120, 114}, {1, 19, 19}, {1, 20, 19},
            {3, 39, 36}, {3, 40, 34}, {3, 59, 53}, {2, 999, 901}};
        for (int[] of : worths) {
            RottenSeats x = voters(of[0]);
            x.base(0, of[1]);
            Due.due("worth " + of[1] + " with " + of[0] + " voters", x.worth(0, 1, 0), of[2]);
        }
        RottenSeats x = voters(2);
        x.base(0, 33);
        // 33 by 3 by 80 is 79, a twentieth of it 3
        Due.due("a twentieth of what is cut", x.worth(0, 3, 20), 73);
    }

    private static void promise21AtLeast() {
        Due.says("for each PERSON who MAY VOTE there now, 0 at least");
        int[][] worths = {{19, 100, 5}, {20, 100, 0}, {21, 100, 0}, {40, 100, 0}, {40, 19, 19}, {20, 119, 19},
            {23, 119, 4}, {24, 119, 0}, {40, 20, 0}, {21, 21, 0}, {22, 21, 0}, {40, 999, 0}};
        for (int[] of : worths) {
            RottenSeats x = voters(of[0]);
            x.base(0, of[1]);
            Due.due("worth " + of[1] + " with " + of[0] + " voters", x.worth(0, 1, 0), of[2]);
            Due.due("worth of nothing with " + of[0] + " voters", x.worth(0, 7, 100), 0);
        }
    }

    private static void promise21Now() {
        Due.says("for each PERSON who MAY VOTE there now");
        RottenSeats x = sold(1);
        x.place(1, -1);
        x.days(5);
        Due.text(x, "d>0");
        x.old(0, 0, 6);
        x.person(0, 5, 0, -1);
        x.person(0, 0, 0, -1);
        x.person(1, 0, 0, -1);
        Due.due("a day ahead of the text", x.worth(0, 1, 0), 100);
        x.days(1);
        Due.due("on its day", x.worth(0, 1, 0), 90);
        Due.due("of a place without a text", x.worth(1, 1, 0), 100);
        x.gone(1);
        Due.due("when one is gone", x.worth(0, 1, 0), 95);
    }

    private static void promise21Order() {
        Due.says("`int worth(int place, int years, int standing)`: WORTH. -1; -4; -6.");
        Edge.among("worth of a place", 0, 2, -1, (x, v) -> x.worth(v, 1, 0));
        Edge.refused("no place ahead of below", -1, x -> x.worth(3, 0, -1));
        Edge.refused("no place ahead of above", -1, x -> x.worth(-1, 8, 101));
        Edge.refused("years below ahead of standing above", -4, x -> x.worth(0, 0, 101));
        Edge.refused("standing below ahead of years above", -4, x -> x.worth(0, 8, -1));
    }
}
