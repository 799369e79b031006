/** Promises 26 to 30: the lines of the bill, which stand, what they give and take. */
public final class BillTest {
    public static void main(String[] args) {
        promise26Line();
        promise26Refusals();
        promise26Room();
        promise27Stands();
        promise28Falls();
        promise29Take();
        promise29Give();
        promise29Texts();
        promise29Order();
        promise29KnownNow();
        promise29Refusals();
        promise30Seats();
        promise30SeatsBothWays();
        promise30Votes();
        promise30VotesInOnePlace();
        promise30Refusals();
        Due.end();
    }

    private static void promise26Line() {
        RottenSeats x = new RottenSeats();
        Due.text(x, "1=1");
        Due.due("line(0, 1, 0, 0)", x.line(0, 1, 0, 0), 0);
        Due.due("line(1, 2, 9999, 1)", x.line(1, 2, 9999, 1), 1);
        Due.due("line(2, 1, 0, 3)", x.line(2, 1, 0, 3), 2);
        Due.due("line(2, 2, 0, 5)", x.line(2, 2, 0, 5), 3);
        Due.due("count(8)", x.count(8), 4);
        Due.due("count(13)", x.count(13), 0);
    }

    private static void promise26Refusals() {
        RottenSeats x = new RottenSeats();
        Due.due("kind 3", x.line(3, 0, -1, -1), -2);
        Due.due("kind -1", x.line(-1, 3, 10000, 1), -2);
        Due.due("n 0", x.line(0, 0, 10000, 1), -4);
        Due.due("x -1", x.line(2, 3, -1, 1), -4);
        Due.due("hangs -1", x.line(2, 3, 10000, -1), -4);
        Due.due("n 3", x.line(0, 3, 0, 1), -6);
        Due.due("n 3 of kind 2", x.line(2, 3, 0, 1), -6);
        Due.due("n 0 of kind 2", x.line(2, 0, 0, 1), -4);
        Due.due("x 10000", x.line(1, 1, 10000, 1), -6);
        Due.due("x 10000 of kind 2", x.line(2, 1, 10000, 1), -6);
        Due.due("no text", x.line(2, 1, 0, 1), -1);
        Due.petition(x, "a=1");
        Due.due("a petition", x.line(2, 1, 0, 0), -1);
        Due.text(x, "1=1");
        Due.due("hangs on itself", x.line(2, 1, 0, 1), -3);
        Due.due("a line of kind 2", x.line(2, 1, 0, 0), 0);
        Due.due("text 1", x.line(2, 1, 1, 2), -1);
        Due.due("hangs on a greater one", x.line(0, 1, 5, 2), -3);
        Due.due("hangs on a far one", x.line(0, 1, 5, 1 << 30), -3);
        Due.due("hangs on 512", x.line(0, 1, 5, 512), -3);
        Due.due("hangs on a lesser one", x.line(0, 1, 5, 1), 1);
        Due.due("hangs on one of two", x.line(0, 1, 5, 5), -3);
        Due.refusals("after line", x, 3, 2, 5, 4, 0, 4);
    }

    private static void promise26Room() {
        RottenSeats x = new RottenSeats();
        for (int i = 0; i < 9; i++) {
            Due.due("line no " + i, x.line(0, 1, 1, (1 << i) - 1), i);
        }
        Due.due("line no 9", x.line(0, 1, 1, 512), -6);
        Due.due("line no 9 of no text", x.line(2, 1, 0, 512), -6);
        Due.due("line no 9, below", x.line(0, 0, 1, 0), -4);
        Due.due("count(8)", x.count(8), 9);
        Due.due("stands(511)", x.stands(511), 511);
        Due.due("stands(510)", x.stands(510), 0);
        Due.due("stands(512)", x.stands(512), -9);
        Due.due("falls(8)", x.falls(8), 256);
        Due.due("falls(0)", x.falls(0), 511);
    }

    /** 1 hangs on 0, 2 on none, 3 on 1 and 2, 4 on 3. */
    private static RottenSeats hung() {
        RottenSeats x = new RottenSeats();
        x.line(0, 1, 0, 0);
        x.line(0, 1, 0, 1);
        x.line(0, 1, 0, 0);
        x.line(0, 1, 0, 6);
        x.line(0, 1, 0, 8);
        return x;
    }

    private static void promise27Stands() {
        RottenSeats x = hung();
        int[][] sets = {{0, 0}, {31, 31}, {1, 1}, {2, 0}, {3, 3}, {4, 4}, {8, 0}, {14, 4}, {15, 15}, {11, 3},
            {30, 4}, {27, 3}, {23, 7}, {29, 5}, {16, 0}};
        for (int[] set : sets) {
            Due.due("stands(" + set[0] + ")", x.stands(set[0]), set[1]);
        }
        Due.due("stands(32)", x.stands(32), -9);
        Due.due("stands(33)", x.stands(33), -9);
        Due.due("stands(-1)", x.stands(-1), -9);
        Due.due("stands(MIN)", x.stands(Integer.MIN_VALUE), -9);
        Due.due("stands(1) of no line", new RottenSeats().stands(1), -9);
        Due.refusals("after stands", x, 0, 0, 0, 0, 0, 0);
    }

    private static void promise28Falls() {
        RottenSeats x = hung();
        int[] falls = {27, 26, 28, 24, 16};
        for (int line = 0; line < 5; line++) {
            Due.due("falls(" + line + ")", x.falls(line), falls[line]);
        }
        Due.due("falls(5)", x.falls(5), -1);
        Due.due("falls(-1)", x.falls(-1), -1);
        Due.refusals("after falls", x, 2, 0, 0, 0, 0, 0);
    }

    /** Three places with 0, 1, 2 seats and 30, 20, 10 houses: ranks 2, 1, 0. */
    private static RottenSeats three() {
        RottenSeats x = new RottenSeats();
        for (int i = 0; i < 3; i++) {
            x.place(i, -1);
            x.roll(i, 0, 0, 30 - 10 * i, 0);
        }
        return x;
    }

    private static void seats(RottenSeats x, int set, int a, int b, int c) {
        Due.due("seats of 0 under " + set, x.under(set, 0, 0, 0), a);
        Due.due("seats of 1 under " + set, x.under(set, 1, 0, 0), b);
        Due.due("seats of 2 under " + set, x.under(set, 2, 0, 0), c);
    }

    private static void promise29Take() {
        RottenSeats x = three();
        x.line(0, 1, 0, 0);
        x.line(0, 1, 1, 0);
        x.line(0, 2, 2, 0);
        x.line(0, 1, 9999, 0);
        seats(x, 0, 0, 1, 2);
        seats(x, 1, 0, 1, 2);
        seats(x, 2, 0, 1, 1);
        seats(x, 4, 0, 0, 0);
        seats(x, 8, 0, 0, 1);
        seats(x, 10, 0, 0, 0);
    }

    private static void promise29Give() {
        RottenSeats x = three();
        x.line(1, 1, 21, 0);
        x.line(1, 2, 20, 0);
        x.line(1, 1, 0, 0);
        x.line(1, 1, 31, 0);
        seats(x, 1, 1, 1, 2);
        seats(x, 2, 2, 3, 2);
        seats(x, 4, 1, 2, 3);
        seats(x, 8, 0, 1, 2);
        seats(x, 7, 4, 4, 3);
        for (int i = 4; i < 9; i++) {
            x.line(1, 2, 10, 0);
        }
        seats(x, 496, 9, 9, 9);
        seats(x, 240, 8, 9, 9);
        seats(x, 112, 6, 7, 8);
    }

    private static void promise29Texts() {
        RottenSeats x = three();
        Due.text(x, "1=1");
        Due.text(x, "2=2");
        x.line(2, 1, 1, 0);
        x.old(1, 0, 1);
        Due.due("text of none", x.under(0, 1, 0, 1), -9);
        Due.due("text of one told", x.under(0, 1, 1, 1), 0);
        Due.due("text of no seats", x.under(1, 0, 0, 1), -9);
        Due.due("text of one with a seat", x.under(1, 1, 1, 1), 1);
        Due.due("text of one without an old one", x.under(1, 2, 0, 1), 1);
        Due.due("seats are left", x.under(1, 2, 0, 0), 2);
    }

    private static void promise29Order() {
        RottenSeats x = three();
        Due.text(x, "1=1");
        Due.text(x, "2=2");
        x.line(0, 1, 2, 0);
        x.line(1, 1, 30, 0);
        x.line(2, 1, 0, 1);
        x.line(0, 2, 1, 0);
        x.line(1, 2, 10, 0);
        x.line(2, 1, 1, 8);
        // All in turn: 0 1 2; 0 0 1; 1 0 1; texts 0 - 0; 1 0 0; 3 2 2; texts 1 1 1
        seats(x, 63, 3, 2, 2);
        seats(x, 15, 1, 0, 0);
        seats(x, 7, 1, 0, 1);
        Due.due("text of 0 under 7", x.under(7, 0, 0, 1), 0);
        Due.due("text of 1 under 7", x.under(7, 1, 0, 1), -9);
        Due.due("text of 2 under 15", x.under(15, 2, 0, 1), 0);
        Due.due("text of 1 under 63", x.under(63, 1, 0, 1), 1);
        Due.due("text of 0 under 5: no seats", x.under(5, 0, 0, 1), -9);
        Due.due("text of 1 under 4: line 2 does not stand", x.under(4, 1, 0, 1), -9);
        Due.due("text of 2 under 41", x.under(41, 2, 0, 1), -9);
        Due.due("text of 1 under 40", x.under(40, 1, 0, 1), 1);
    }

    private static void promise29KnownNow() {
        RottenSeats x = three();
        x.line(1, 1, 50, 0);
        x.line(0, 1, 1, 0);
        x.days(10);
        x.roll(2, 0, 5, 55, 0);
        Due.due("given by houses of that day", x.under(1, 2, 5, 0), 3);
        Due.due("not given ahead of it", x.under(1, 2, 4, 0), 2);
        Due.due("given on a day behind now", x.under(1, 2, 2000, 0), 3);
        Due.due("taken by the rank of that day", x.under(2, 1, 5, 0), 0);
        Due.due("not taken any more", x.under(2, 2, 5, 0), 2);
        Due.due("taken ahead of it", x.under(2, 2, 4, 0), 1);
        x.weigh(0, 0);
        Due.due("all alike: the least is first", x.under(2, 1, 5, 0), 1);
    }

    private static void promise29Refusals() {
        RottenSeats x = three();
        x.line(0, 1, 9, 0);
        Due.due("a set with others", x.under(2, 0, -1, 2), -1);
        Due.due("a set below 0", x.under(-1, 0, -1, 2), -1);
        Due.due("under of 3", x.under(0, 3, -1, 2), -1);
        Due.due("under of -1", x.under(0, -1, 0, 0), -1);
        Due.due("under what 2", x.under(0, 0, -1, 2), -2);
        Due.due("under what -1", x.under(0, 0, 2001, -1), -2);
        Due.due("under day -1", x.under(0, 0, -1, 0), -4);
        Due.due("under day 2001", x.under(0, 0, 2001, 1), -6);
        Due.due("under day 2000", x.under(1, 2, 2000, 0), 1);
        Due.refusals("after under", x, 4, 2, 0, 1, 0, 1);
    }

    private static void gains(RottenSeats x, int line, int gain, int lose) {
        Due.due("gain of " + line, x.gain(line, 0, 0), gain);
        Due.due("lose of " + line, x.gain(line, 0, 1), lose);
    }

    private static void promise30Seats() {
        RottenSeats x = three();
        x.line(0, 2, 2, 0);
        x.line(1, 2, 20, 0);
        x.line(1, 1, 30, 2);
        // All: 0 1 2; 0 0 0; 2 2 0; 3 2 0
        gains(x, 0, 0, 3);
        gains(x, 1, 5, 0);
        gains(x, 2, 1, 0);
        x.days(1);
        x.roll(0, 0, 1, 5, 0);
        // On day 1 place 0 is first and has 5 houses: 0 1 0 under all
        Due.due("gain on day 1", x.gain(1, 1, 0), 2);
        Due.due("gain on day 0", x.gain(1, 0, 0), 5);
        Due.due("lose on day 1", x.gain(0, 1, 1), 2);
    }

    private static void promise30SeatsBothWays() {
        RottenSeats x = three();
        x.line(1, 1, 20, 0);
        x.line(0, 2, 1, 1);
        // All: 1 2 0; without line 0: 0 1 2
        gains(x, 0, 2, 2);
        gains(x, 1, 0, 2);
    }

    private static void promise30Votes() {
        RottenSeats x = three();
        Due.text(x, "p>0");
        Due.text(x, "h>0");
        x.old(1, 0, 0);
        for (int i = 0; i < 5; i++) {
            x.person(i % 3, 0, 0, -1);
        }
        x.right(0, 1, 1, 5, 0);
        x.right(0, 2, 0, 0, 0);
        x.right(1, 1, 1, 5, 0);
        x.right(2, 1, 0, 0, 0);
        x.right(3, 1, 0, 0, 0);
        x.right(4, 2, 0, 0, 0);
        x.right(4, 0, 1, 9, 0);
        x.line(2, 1, 1, 0);
        // By the old texts 0 and 1 vote (in place 1); by h in places 1, 2: 0, 2, 3, 4
        Due.due("votes", x.gain(0, 0, 2), 2);
        x.gone(3);
        Due.due("votes without one gone", x.gain(0, 0, 2), 1);
        x.gone(2);
        x.gone(4);
        Due.due("votes lost", x.gain(0, 0, 2), -1);
        Due.due("gain of a text", x.gain(0, 0, 0), 0);
        Due.due("lose of a text", x.gain(0, 0, 1), 0);
        x.days(5);
        x.right(1, 2, 0, 0, 4);
        Due.due("votes on day 3", x.gain(0, 3, 2), -1);
        Due.due("votes on day 4", x.gain(0, 4, 2), 0);
        // Line 1 leaves place 2 alone with a seat; there line 2 brings text 0 back, which 0 and 1
        // do not meet there. Without line 0 they vote in place 1, without line 2 in place 2.
        x.line(0, 1, 9, 0);
        x.line(2, 1, 0, 2);
        Due.due("votes of line 0 when another undoes it", x.gain(0, 4, 2), -2);
        Due.due("votes of line 1, with 2 that hangs on it", x.gain(1, 4, 2), -2);
        Due.due("votes of the line that undoes", x.gain(2, 4, 2), -2);
    }

    private static void promise30VotesInOnePlace() {
        for (int place = 0; place < 3; place++) {
            RottenSeats x = new RottenSeats();
            Due.text(x, "1=1");
            for (int i = 0; i < 3; i++) {
                x.place(i == place ? 1 : 0, -1);
            }
            x.person(0, 0, 0, -1);
            x.person(1, 0, 0, -1);
            x.line(2, 1, 0, 0);
            Due.due("votes in place " + place + " alone", x.gain(0, 0, 2), 2);
        }
    }

    private static void promise30Refusals() {
        RottenSeats x = three();
        Due.due("gain of no line", x.gain(0, -1, 3), 1000000001);
        x.line(0, 1, 1, 0);
        Due.due("gain of -1", x.gain(-1, -1, 3), 1000000001);
        Due.due("gain of 1", x.gain(1, -1, 3), 1000000001);
        Due.due("gain what 3", x.gain(0, -1, 3), 1000000002);
        Due.due("gain what -1", x.gain(0, 2001, -1), 1000000002);
        Due.due("gain day -1", x.gain(0, -1, 2), 1000000004);
        Due.due("gain day 2001", x.gain(0, 2001, 2), 1000000006);
        Due.due("gain day 2000", x.gain(0, 2000, 1), 1);
        Due.refusals("after gain", x, 3, 2, 0, 1, 0, 1);
    }
}
