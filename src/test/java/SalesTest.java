/** Promises 18 to 21: sales, seats sold twice, and what a seat is worth. */
public final class SalesTest {
    public static void main(String[] args) {
        promise18Sell();
        promise18SellRoom();
        promise19OneSeat();
        promise19TwoSeats();
        promise19NoSeat();
        promise19Places();
        promise20Base();
        promise21Worth();
        promise21Voters();
        promise21Refusals();
        Due.end();
    }

    private static void promise18Sell() {
        RottenSeats x = new RottenSeats();
        Due.due("sell of no place", x.sell(0, -1, 10000, 10000), -1);
        x.place(1, 0);
        Due.due("sell(0, 0, 9999, 9999)", x.sell(0, 0, 9999, 9999), 0);
        Due.due("sell(0, 9999, 9999, 0)", x.sell(0, 9999, 9999, 0), 1);
        Due.due("sell of -1", x.sell(-1, 0, 0, 0), -1);
        Due.due("sell of 1", x.sell(1, 0, 0, -1), -1);
        Due.due("from -1", x.sell(0, -1, 10000, 10000), -4);
        Due.due("to -1", x.sell(0, 0, -1, 0), -4);
        Due.due("to ahead of from", x.sell(0, 10000, 9999, 0), -4);
        Due.due("to ahead of from by 1", x.sell(0, 5, 4, 10000), -4);
        Due.due("price -1", x.sell(0, 0, 10000, -1), -4);
        Due.due("to 10000", x.sell(0, 0, 10000, 0), -6);
        Due.due("from 10000", x.sell(0, 10000, 10000, 0), -6);
        Due.due("price 10000", x.sell(0, 0, 0, 10000), -6);
        Due.due("count(9)", x.count(9), 2);
        Due.refusals("after sell", x, 3, 0, 0, 5, 0, 3);
    }

    private static void promise18SellRoom() {
        RottenSeats x = new RottenSeats();
        x.place(1, 0);
        for (int i = 0; i < 30; i++) {
            Due.due("sale no " + i, x.sell(0, i, i, 0), i);
        }
        Due.due("sale no 30", x.sell(0, 0, 0, 0), -6);
        Due.due("sale no 30, below", x.sell(0, 0, 0, -1), -4);
        Due.due("twice(0)", x.twice(0), -9);
        Due.due("count(9)", x.count(9), 30);
    }

    private static void promise19OneSeat() {
        int[][] pairs = {{10, 20, 21, 30, 0}, {10, 20, 20, 30, 1}, {10, 20, 0, 9, 0}, {10, 20, 0, 10, 1},
            {10, 20, 12, 13, 1}, {12, 13, 10, 20, 1}, {10, 20, 10, 20, 1}, {10, 10, 10, 10, 1},
            {10, 10, 11, 11, 0}, {10, 20, 10, 10, 1}, {10, 20, 20, 20, 1}};
        for (int[] p : pairs) {
            RottenSeats x = new RottenSeats();
            x.place(1, 0);
            x.sell(0, p[0], p[1], 1);
            Due.due("one sale", x.twice(0), -9);
            x.sell(0, p[2], p[3], 1);
            Due.due(p[0] + ".." + p[1] + ", " + p[2] + ".." + p[3], x.twice(0), p[4] == 1 ? 1 : -9);
        }
    }

    private static void promise19TwoSeats() {
        int[][] threes = {{0, 10, 5, 15, 10, 20, 1}, {0, 10, 5, 15, 11, 20, 0}, {0, 4, 5, 15, 3, 6, 0},
            {0, 20, 5, 6, 6, 9, 1}, {5, 6, 6, 9, 0, 20, 1}, {5, 6, 7, 9, 0, 20, 0}, {3, 3, 3, 3, 3, 3, 1},
            {0, 9, 9, 9, 0, 8, 0}, {0, 9, 9, 9, 0, 9, 1}, {6, 9, 0, 20, 5, 6, 1}};
        for (int[] t : threes) {
            RottenSeats x = new RottenSeats();
            x.place(2, 0);
            x.sell(0, t[0], t[1], 1);
            x.sell(0, t[2], t[3], 1);
            Due.due("two sales", x.twice(0), -9);
            x.sell(0, t[4], t[5], 1);
            Due.due("three sales from " + t[0] + ", " + t[2] + ", " + t[4], x.twice(0), t[6] == 1 ? 2 : -9);
        }
        RottenSeats x = new RottenSeats();
        x.place(2, 0);
        x.sell(0, 0, 5, 1);
        x.sell(0, 10, 15, 1);
        x.sell(0, 4, 11, 1);
        x.sell(0, 5, 5, 1);
        Due.due("two that do not meet, then a third pair", x.twice(0), 3);
    }

    private static void promise19NoSeat() {
        RottenSeats x = new RottenSeats();
        x.place(0, 0);
        x.place(1, 0);
        Due.due("no sale", x.twice(0), -9);
        x.sell(1, 0, 0, 0);
        Due.due("a sale of another place", x.twice(0), -9);
        x.sell(0, 5, 5, 0);
        x.sell(0, 5, 5, 0);
        Due.due("any sale", x.twice(0), 1);
        RottenSeats y = new RottenSeats();
        y.place(0, 0);
        y.sell(0, 9999, 9999, 0);
        Due.due("the first sale of all", y.twice(0), 0);
    }

    private static void promise19Places() {
        RottenSeats x = new RottenSeats();
        Due.due("twice of no place", x.twice(0), -1);
        x.place(1, 0);
        x.place(1, 0);
        x.place(2, 0);
        x.sell(0, 0, 9, 0);
        x.sell(1, 0, 9, 0);
        x.sell(2, 0, 9, 0);
        Due.due("sales of several places", x.twice(0), -9);
        x.sell(2, 0, 9, 0);
        x.sell(1, 9, 9, 0);
        x.sell(1, 0, 0, 0);
        Due.due("twice(0)", x.twice(0), -9);
        Due.due("twice(1)", x.twice(1), 4);
        Due.due("twice(2)", x.twice(2), -9);
        x.sell(2, 9, 10, 0);
        Due.due("twice(2)", x.twice(2), 6);
        Due.due("twice(3)", x.twice(3), -1);
        Due.due("twice(-1)", x.twice(-1), -1);
        Due.refusals("after twice", x, 3, 0, 0, 0, 0, 0);
    }

    private static void promise20Base() {
        RottenSeats x = new RottenSeats();
        Due.due("base of no place", x.base(0, -1), -1);
        x.place(1, 0);
        x.place(1, 0);
        Due.due("base(0, 0)", x.base(0, 0), 100);
        Due.due("base(0, 999)", x.base(0, 999), 0);
        Due.due("base(0, 5)", x.base(0, 5), 999);
        Due.due("base(1, 5)", x.base(1, 5), 100);
        Due.due("base(-1, 5)", x.base(-1, 1000), -1);
        Due.due("base(2, 5)", x.base(2, -1), -1);
        Due.due("base(0, -1)", x.base(0, -1), -4);
        Due.due("base(0, 1000)", x.base(0, 1000), -6);
        Due.due("base(0, 6)", x.base(0, 6), 5);
        Due.refusals("after base", x, 3, 0, 0, 1, 0, 1);
    }

    private static void promise21Worth() {
        RottenSeats x = new RottenSeats();
        x.place(1, 0);
        x.place(1, 0);
        Due.due("worth(0, 1, 0)", x.worth(0, 1, 0), 100);
        Due.due("worth(0, 7, 99)", x.worth(0, 7, 99), 7);
        x.base(0, 999);
        Due.due("worth(0, 7, 0)", x.worth(0, 7, 0), 6993);
        Due.due("worth(0, 1, 1): cut", x.worth(0, 1, 1), 989);
        Due.due("worth(0, 3, 33): cut once", x.worth(0, 3, 33), 2007);
        Due.due("worth(0, 7, 100)", x.worth(0, 7, 100), 0);
        Due.due("worth(1, 2, 50)", x.worth(1, 2, 50), 100);
    }

    private static void promise21Voters() {
        RottenSeats x = new RottenSeats();
        x.place(1, 0);
        x.place(1, 0);
        x.base(0, 199);
        x.days(20);
        Due.text(x, "d>10");
        x.old(0, 0, 20);
        x.person(0, 10, 0, -1);
        x.person(0, 11, 0, -1);
        x.person(0, 10, 0, -1);
        x.person(1, 0, 0, -1);
        Due.due("two voters", x.worth(0, 1, 0), 199 - 2 * 9);
        Due.due("another place", x.worth(1, 1, 0), 100);
        x.gone(0);
        Due.due("one voter", x.worth(0, 1, 0), 199 - 9);
        x.days(1);
        Due.due("two voters a day later", x.worth(0, 1, 0), 199 - 2 * 9);
        Due.due("a twentieth, cut", x.worth(0, 1, 90), 19);
        RottenSeats y = new RottenSeats();
        y.place(1, 0);
        Due.text(y, "1=1");
        y.old(0, 0, 0);
        for (int i = 0; i < 19; i++) {
            y.person(0, 0, 0, -1);
        }
        Due.due("19 voters", y.worth(0, 1, 0), 5);
        y.person(0, 0, 0, -1);
        Due.due("20 voters", y.worth(0, 1, 0), 0);
        y.person(0, 0, 0, -1);
        Due.due("21 voters", y.worth(0, 1, 0), 0);
        Due.due("21 voters, a twentieth cut", y.worth(0, 1, 1), 99 - 21 * 4);
    }

    private static void promise21Refusals() {
        RottenSeats x = new RottenSeats();
        Due.due("worth of no place", x.worth(0, 0, 101), -1);
        x.place(1, 0);
        Due.due("worth of -1", x.worth(-1, 1, 1), -1);
        Due.due("years 0", x.worth(0, 0, 101), -4);
        Due.due("standing -1", x.worth(0, 8, -1), -4);
        Due.due("years 8", x.worth(0, 8, 0), -6);
        Due.due("standing 101", x.worth(0, 1, 101), -6);
        Due.due("years MAX", x.worth(0, Integer.MAX_VALUE, 0), -6);
        Due.refusals("after worth", x, 2, 0, 0, 2, 0, 3);
    }
}
