/** Promises 1 to 8: a new object, days, places, rolls and the list. */
public final class PlacesTest {
    private static final int MIN = Integer.MIN_VALUE;
    private static final int MAX = Integer.MAX_VALUE;

    public static void main(String[] args) {
        promise1NewObject();
        promise2Days();
        promise3Place();
        promise4Roll();
        promise4RollRoom();
        promise5Number();
        promise5NumberRefusals();
        promise6Weigh();
        promise7Score();
        promise7RankTies();
        promise7MayStand();
        promise7Refusals();
        promise8Ranked();
        Due.end();
    }

    private static void promise1NewObject() {
        RottenSeats x = new RottenSeats();
        for (int what = 0; what <= 17; what++) {
            Due.due("count(" + what + ") of a new object", x.count(what), 0);
        }
        Due.due("gone(0) of a new object", x.gone(0), -1);
        Due.due("stands(0) of a new object", x.stands(0), 0);
        Due.due("ranked(0, 0, 0) of a new object", x.ranked(0, 0, 0), -9);
    }

    private static void promise2Days() {
        RottenSeats x = new RottenSeats();
        Due.due("days(1)", x.days(1), 1);
        Due.due("days(0)", x.days(0), -4);
        Due.due("days(-1)", x.days(-1), -4);
        Due.due("days(MIN)", x.days(MIN), -4);
        Due.due("days(2000)", x.days(2000), -6);
        Due.due("days(MAX)", x.days(MAX), -6);
        Due.due("count(0)", x.count(0), 1);
        Due.due("days(1999)", x.days(1999), 2000);
        Due.due("days(1)", x.days(1), -6);
        Due.due("count(0)", x.count(0), 2000);
        Due.refusals("after days", x, 0, 0, 0, 3, 0, 3);
    }

    private static void promise3Place() {
        RottenSeats x = new RottenSeats();
        Due.due("place(0, -1)", x.place(0, -1), 0);
        Due.due("place(2, 5)", x.place(2, 5), 1);
        Due.due("place(-1, -2)", x.place(-1, -2), -1);
        Due.due("place(3, 6)", x.place(3, 6), -1);
        Due.due("place(0, MIN)", x.place(0, MIN), -1);
        Due.due("place(0, MAX)", x.place(0, MAX), -1);
        Due.due("place(-1, 0)", x.place(-1, 0), -4);
        Due.due("place(3, 0)", x.place(3, 0), -6);
        Due.due("count(1)", x.count(1), 2);
        for (int i = 2; i < 16; i++) {
            Due.due("place(1, 0) no " + i, x.place(1, 0), i);
        }
        Due.due("the 17th place", x.place(1, 0), -6);
        Due.due("the 17th place, below", x.place(-1, 0), -4);
        Due.due("the 17th place, no patron", x.place(1, 6), -1);
        Due.due("count(1)", x.count(1), 16);
        Due.due("under(0, 1, 0, 0)", x.under(0, 1, 0, 0), 2);
        Due.refusals("after place", x, 5, 0, 0, 2, 0, 2);
    }

    private static void promise4Roll() {
        RottenSeats x = new RottenSeats();
        Due.due("roll of no place", x.roll(0, 2, -1, 10000, 0), -1);
        x.place(1, 0);
        x.days(10);
        Due.due("roll(0, 0, 10, 9999, 999)", x.roll(0, 0, 10, 9999, 999), 1);
        Due.due("roll(0, 1, 0, 0, 0)", x.roll(0, 1, 0, 0, 0), 2);
        Due.due("roll(-1, ..)", x.roll(-1, 0, 0, 0, 0), -1);
        Due.due("roll(1, ..)", x.roll(1, 0, 0, 0, 0), -1);
        Due.due("roll(0, 2, -1, ..)", x.roll(0, 2, -1, 0, 0), -2);
        Due.due("roll(0, -1, ..)", x.roll(0, -1, 0, 10000, 0), -2);
        Due.due("roll day -1", x.roll(0, 0, -1, 10000, 0), -4);
        Due.due("roll v -1", x.roll(0, 0, 11, -1, 0), -4);
        Due.due("roll wrong -1", x.roll(0, 0, 11, 0, -1), -4);
        Due.due("roll day 11", x.roll(0, 0, 11, 0, 0), -6);
        Due.due("roll v 10000", x.roll(0, 0, 0, 10000, 0), -6);
        Due.due("roll wrong 1000", x.roll(0, 0, 0, 0, 1000), -6);
        Due.due("count(2)", x.count(2), 2);
        Due.refusals("after roll", x, 3, 2, 0, 3, 0, 3);
    }

    private static void promise4RollRoom() {
        RottenSeats x = new RottenSeats();
        x.place(1, 0);
        x.place(1, 0);
        for (int i = 1; i <= 120; i++) {
            Due.due("roll no " + i, x.roll(i % 2, i / 2 % 2, 0, i, 0), i);
        }
        Due.due("roll no 121", x.roll(0, 0, 0, 1, 0), -6);
        Due.due("roll no 121, below", x.roll(0, 0, 0, -1, 0), -4);
        Due.due("roll no 121, other", x.roll(0, 2, 0, -1, 0), -2);
        Due.due("count(2)", x.count(2), 120);
        Due.due("number(0, 0, ..)", x.number(0, 0, 0, 0, false), 120);
        Due.due("number(1, 1, ..)", x.number(1, 1, 0, 0, false), 119);
    }

    private static void promise5Number() {
        RottenSeats x = new RottenSeats();
        x.place(1, 0);
        x.place(1, 0);
        x.days(10);
        x.roll(0, 0, 5, 50, 1);
        x.roll(0, 0, 3, 30, 2);
        x.roll(0, 1, 5, 77, 9);
        x.roll(1, 0, 5, 88, 8);
        Due.due("ahead of all", x.number(0, 0, 2, 10, false), 0);
        Due.due("ahead of all, wrong", x.number(0, 0, 2, 10, true), 0);
        Due.due("on the first", x.number(0, 0, 3, 10, false), 30);
        Due.due("behind the first", x.number(0, 0, 4, 10, true), 2);
        Due.due("on the later one", x.number(0, 0, 5, 10, false), 50);
        Due.due("a later day told earlier", x.number(0, 0, 2000, 2000, true), 1);
        Due.due("not known yet", x.number(0, 0, 2000, 9, false), 0);
        Due.due("taxes", x.number(0, 1, 5, 10, false), 77);
        Due.due("another place", x.number(1, 0, 5, 10, true), 8);
        Due.due("without a roll", x.number(1, 1, 5, 10, false), 0);
        x.days(1);
        x.roll(0, 0, 5, 55, 4);
        Due.due("told last", x.number(0, 0, 9, 11, false), 55);
        Due.due("told last, wrong", x.number(0, 0, 9, 11, true), 4);
        Due.due("as known a day ahead", x.number(0, 0, 9, 10, false), 50);
        x.roll(0, 0, 5, 56, 0);
        Due.due("told last on the same day", x.number(0, 0, 5, 11, false), 56);
    }

    private static void promise5NumberRefusals() {
        RottenSeats x = new RottenSeats();
        Due.due("no place", x.number(0, 2, -1, 2001, false), -1);
        x.place(1, 0);
        Due.due("place -1", x.number(-1, 0, 0, 0, false), -1);
        Due.due("what 2", x.number(0, 2, -1, 2001, true), -2);
        Due.due("what -1", x.number(0, -1, -1, 2001, true), -2);
        Due.due("j -1", x.number(0, 0, -1, 2001, false), -4);
        Due.due("k -1", x.number(0, 0, 2001, -1, false), -4);
        Due.due("j 2001", x.number(0, 0, 2001, 0, false), -6);
        Due.due("k 2001", x.number(0, 0, 0, 2001, false), -6);
        Due.due("j, k 2000", x.number(0, 0, 2000, 2000, false), 0);
        Due.refusals("after number", x, 2, 2, 0, 2, 0, 2);
    }

    private static void promise6Weigh() {
        RottenSeats x = new RottenSeats();
        Due.due("weigh(0, 99)", x.weigh(0, 99), 1);
        Due.due("weigh(1, 0)", x.weigh(1, 0), 1);
        Due.due("weigh(2, -1)", x.weigh(2, -1), -2);
        Due.due("weigh(-1, 100)", x.weigh(-1, 100), -2);
        Due.due("weigh(0, -1)", x.weigh(0, -1), -4);
        Due.due("weigh(1, 100)", x.weigh(1, 100), -6);
        Due.due("weigh(0, 7)", x.weigh(0, 7), 99);
        Due.due("weigh(1, 8)", x.weigh(1, 8), 0);
        Due.due("weigh(0, 1)", x.weigh(0, 1), 7);
        Due.refusals("after weigh", x, 0, 2, 0, 1, 0, 1);
    }

    private static void promise7Score() {
        RottenSeats x = new RottenSeats();
        x.place(1, 0);
        x.place(1, 0);
        x.roll(0, 0, 0, 9999, 999);
        x.roll(0, 1, 0, 9999, 999);
        Due.due("score", x.list(0, 0, 0, 0), 19998);
        x.weigh(0, 99);
        Due.due("score weighed", x.list(0, 0, 0, 0), 99 * 9999 + 9999);
        x.weigh(1, 2);
        Due.due("score of both", x.list(0, 0, 0, 0), 101 * 9999);
        Due.due("score without rolls", x.list(1, 0, 0, 0), 0);
        x.weigh(0, 0);
        Due.due("score of taxes", x.list(0, 0, 0, 0), 2 * 9999);
        x.days(3);
        x.roll(0, 1, 2, 10, 0);
        Due.due("score on a day", x.list(0, 1, 3, 0), 2 * 9999);
        Due.due("score by the later roll", x.list(0, 2, 3, 0), 20);
        Due.due("score as known ahead", x.list(0, 2, 2, 0), 2 * 9999);
    }

    private static void promise7RankTies() {
        RottenSeats x = new RottenSeats();
        int[] houses = {5, 3, 5, 1, 3};
        int[] ranks = {3, 1, 4, 0, 2};
        for (int i = 0; i < houses.length; i++) {
            x.place(1, 0);
            x.roll(i, 0, 0, houses[i], 0);
        }
        for (int i = 0; i < houses.length; i++) {
            Due.due("rank of " + i, x.list(i, 0, 0, 1), ranks[i]);
            Due.due("place of rank " + ranks[i], x.ranked(ranks[i], 0, 0), i);
        }
    }

    private static void promise7MayStand() {
        RottenSeats x = new RottenSeats();
        for (int i = 0; i < 4; i++) {
            x.place(1, 0);
        }
        x.roll(0, 0, 0, 10, 2);
        x.roll(1, 0, 0, 15, 3);
        x.roll(2, 0, 0, 12, 0);
        x.roll(3, 0, 0, 5, 9);
        // LEAST .. GREATEST: 8..12, 12..18, 12..12, 0..14
        due4(x, "least rank", 2, 0, 0, 0, 0);
        due4(x, "greatest rank", 3, 3, 3, 3, 3);
        x.roll(3, 0, 0, 5, 2);
        // 3..7
        due4(x, "least rank", 2, 1, 1, 1, 0);
        due4(x, "greatest rank", 3, 3, 3, 3, 0);
        x.roll(1, 0, 0, 16, 3);
        // 13..19
        due4(x, "least rank", 2, 1, 3, 1, 0);
        due4(x, "greatest rank", 3, 2, 3, 2, 0);
        // The taxes' own LEAST is 0 at least, ahead of the weights.
        x.roll(3, 1, 0, 1, 50);
        x.weigh(1, 3);
        due4(x, "least rank with taxes", 2, 0, 2, 0, 0);
        due4(x, "greatest rank with taxes", 3, 2, 3, 2, 3);
        Due.due("score with taxes", x.list(3, 0, 0, 0), 8);
    }

    private static void due4(RottenSeats x, String of, int what, int a, int b, int c, int d) {
        Due.due(of + " of 0", x.list(0, 0, 0, what), a);
        Due.due(of + " of 1", x.list(1, 0, 0, what), b);
        Due.due(of + " of 2", x.list(2, 0, 0, what), c);
        Due.due(of + " of 3", x.list(3, 0, 0, what), d);
    }

    private static void promise7Refusals() {
        RottenSeats x = new RottenSeats();
        Due.due("list of no place", x.list(0, -1, 2001, 4), -1);
        x.place(1, 0);
        Due.due("list of -1", x.list(-1, 0, 0, 0), -1);
        Due.due("list what 4", x.list(0, -1, 2001, 4), -2);
        Due.due("list what -1", x.list(0, -1, 2001, -1), -2);
        Due.due("list j -1", x.list(0, -1, 2001, 0), -4);
        Due.due("list k -1", x.list(0, 2001, -1, 0), -4);
        Due.due("list j 2001", x.list(0, 2001, 0, 3), -6);
        Due.due("list k 2001", x.list(0, 0, 2001, 3), -6);
        Due.due("list 2000", x.list(0, 2000, 2000, 3), 0);
        Due.refusals("after list", x, 2, 2, 0, 2, 0, 2);
    }

    private static void promise8Ranked() {
        RottenSeats x = new RottenSeats();
        x.place(1, 0);
        x.place(1, 0);
        x.days(2);
        x.roll(0, 0, 1, 4, 0);
        Due.due("ranked(0, 0, 2)", x.ranked(0, 0, 2), 0);
        Due.due("ranked(0, 1, 1)", x.ranked(0, 1, 1), 0);
        Due.due("ranked(0, 1, 2)", x.ranked(0, 1, 2), 1);
        Due.due("ranked(1, 2000, 2000)", x.ranked(1, 2000, 2000), 0);
        Due.due("ranked(2, ..)", x.ranked(2, 0, 0), -9);
        Due.due("ranked(-1, ..)", x.ranked(-1, 0, 0), -9);
        Due.due("ranked(MAX, ..)", x.ranked(MAX, 0, 0), -9);
        Due.due("ranked(-1, -1, ..)", x.ranked(-1, -1, 2001), -4);
        Due.due("ranked k -1", x.ranked(0, 2001, -1), -4);
        Due.due("ranked j 2001", x.ranked(0, 2001, 0), -6);
        Due.due("ranked k 2001", x.ranked(0, 0, 2001), -6);
        Due.refusals("after ranked", x, 0, 0, 0, 2, 0, 2);
    }
}
