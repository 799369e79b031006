/** Where promises 37 and 38 end: on which nights lines are brought. */
public final class EdgesOfNightsTest {
    public static void main(String[] args) {
        promise37Nights();
        promise37AtMost();
        promise37Order();
        promise37MoreYes();
        promise37Zero();
        promise37Read();
        promise37LeastAndMost();
        promise37NoMoreThanItHas();
        promise37OnOrAhead();
        promise37AllItHangsOn();
        promise37OnlyCarried();
        promise38LeastNight();
        promise38NoneLast();
        promise38LineByLine();
        promise38MostFirst();
        promise38Last();
        promise38Refusals();
        promise38Order();
        Due.end();
    }

    /**
     * Lines that hang on such sets, and for each night a knot of one that is there then alone and
     * wants such lines.
     */
    private static RottenSeats bill(int[] hangs, int... can) {
        RottenSeats x = new RottenSeats();
        for (int set : hangs) {
            x.line(0, 1, 0, set);
        }
        for (int night = 0; night < can.length; night++) {
            x.member(night, 0);
            x.there(night, night, 1, 1);
            x.read(night, 511);
            for (int line = 0; line < hangs.length; line++) {
                x.want(night, line, can[night] >> line & 1);
            }
        }
        return x;
    }

    private static void planned(RottenSeats x, int n, int c, int... nights) {
        int many = 0;
        for (int line = 0; line < nights.length; line++) {
            Due.due("nightOf(" + n + ", " + c + ", " + line + ")", x.nightOf(n, c, line), nights[line]);
            many += nights[line] >= 0 ? 1 : 0;
        }
        Due.due("nights(" + n + ", " + c + ")", x.nights(n, c), many);
    }

    private static void promise37Nights() {
        Due.says("each LINE is brought on at most one of NIGHTS 0 .. n - 1 (n 1 .. 5)");
        Edge.range("n nights", 1, -4, 5, -6, (x, n) -> x.nights(n, 1));
        int[] hangs = new int[5];
        RottenSeats x = bill(hangs, 1, 2, 4, 8, 16);
        planned(x, 1, 9, 0, -9, -9, -9, -9);
        planned(x, 2, 9, 0, 1, -9, -9, -9);
        planned(x, 3, 9, 0, 1, 2, -9, -9);
        planned(x, 4, 9, 0, 1, 2, 3, -9);
        planned(x, 5, 9, 0, 1, 2, 3, 4);
        RottenSeats y = bill(hangs, 31, 31, 31, 31, 31);
        planned(y, 5, 9, 0, 0, 0, 0, 0);
    }

    private static void promise37AtMost() {
        Due.says("on each at most c (1 .. 9)");
        Edge.range("c lines a night", 1, -4, 9, -6, (x, c) -> x.nights(1, c));
        RottenSeats x = bill(new int[9], 511, 511);
        for (int c = 1; c <= 9; c++) {
            Due.due("nights(1, " + c + ")", x.nights(1, c), c);
            Due.due("nights(2, " + c + ")", x.nights(2, c), Math.min(9, 2 * c));
            for (int line = 0; line < 9; line++) {
                int night = line / c;
                Due.due("nightOf(1, " + c + ", " + line + ")", x.nightOf(1, c, line), night < 1 ? 0 : -9);
                Due.due("nightOf(2, " + c + ", " + line + ")", x.nightOf(2, c, line), night < 2 ? night : -9);
            }
        }
    }

    private static void promise37Order() {
        Due.says("`int nights(int n, int c)`: NIGHTS: how many LINES. -4; -6.");
        Edge.refused("n below ahead of c above", -4, x -> x.nights(0, 10));
        Edge.refused("c below ahead of n above", -4, x -> x.nights(6, 0));
        Edge.refused("both above", -6, x -> x.nights(6, 10));
        Edge.refusedWhenNew("n below when new", -4, x -> x.nights(0, 1));
        Edge.refusedWhenNew("c above when new", -6, x -> x.nights(5, 10));
    }

    /** Knot 0 wants line 0, knot 1 does not; so many of each are there, for sure or perhaps. */
    private static RottenSeats wanted(int yesLeast, int yesMost, int noLeast, int noMost) {
        RottenSeats x = new RottenSeats();
        x.line(0, 1, 0, 0);
        for (int i = 0; i < 10; i++) {
            x.member(0, 0);
            x.member(1, 0);
        }
        x.read(0, 1);
        x.read(1, 1);
        x.want(0, 0, 1);
        x.want(1, 0, -1);
        x.there(0, 0, yesLeast, yesMost);
        x.there(1, 0, noLeast, noMost);
        return x;
    }

    private static void promise37MoreYes() {
        Due.says("leaves more yes than no");
        planned(wanted(0, 0, 0, 0), 1, 1, -9);
        planned(wanted(1, 1, 0, 0), 1, 1, 0);
        planned(wanted(4, 4, 4, 4), 1, 1, -9);
        planned(wanted(5, 5, 4, 4), 1, 1, 0);
        planned(wanted(4, 4, 5, 5), 1, 1, -9);
    }

    private static void promise37LeastAndMost() {
        Due.says("THERE least for yes, most for no");
        planned(wanted(4, 10, 4, 4), 1, 1, -9);
        planned(wanted(5, 10, 0, 4), 1, 1, 0);
        planned(wanted(5, 10, 0, 5), 1, 1, -9);
        planned(wanted(0, 10, 0, 0), 1, 1, -9);
        planned(wanted(10, 10, 0, 9), 1, 1, 0);
        planned(wanted(10, 10, 0, 10), 1, 1, -9);
    }

    private static void promise37Zero() {
        Due.says("want above 0 yes, below 0 no, 0 not there");
        RottenSeats x = wanted(5, 5, 9, 9);
        x.want(1, 0, 0);
        planned(x, 1, 1, 0);
        x.want(1, 0, -1);
        planned(x, 1, 1, -9);
        x.want(1, 0, 1);
        planned(x, 1, 1, 0);
        x.want(0, 0, 0);
        planned(x, 1, 1, 0);
        x.want(1, 0, 0);
        planned(x, 1, 1, -9);
        // How much is wanted, and a BAR, count nothing.
        x.want(1, 0, -9);
        x.want(0, 0, 9);
        planned(x, 1, 1, -9);
        x.there(1, 0, 0, 4);
        x.want(0, 0, 1);
        x.bar(0, 99);
        x.bar(1, -99);
        planned(x, 1, 1, 0);
    }

    private static void promise37Read() {
        Due.says("its own want (of KNOTS that READ it");
        RottenSeats x = wanted(5, 5, 9, 9);
        planned(x, 1, 1, -9);
        x.read(1, 510);
        planned(x, 1, 1, 0);
        x.read(0, 510);
        planned(x, 1, 1, -9);
        x.read(0, 511);
        planned(x, 1, 1, 0);
        x.read(1, 1);
        planned(x, 1, 1, -9);
    }

    private static void promise37NoMoreThanItHas() {
        Due.says("where it is used, neither is more than it has then");
        planned(wanted(40, 40, 10, 10), 1, 1, -9);
        planned(wanted(40, 40, 9, 9), 1, 1, 0);
        planned(wanted(10, 10, 9, 40), 1, 1, -9);
        RottenSeats x = wanted(40, 40, 10, 10);
        x.member(0, 0);
        planned(x, 1, 1, 0);
        x.member(1, 0);
        planned(x, 1, 1, 0);
        x.there(1, 0, 0, 11);
        planned(x, 1, 1, -9);
    }

    private static void promise37OnOrAhead() {
        Due.says("a LINE may only be brought on a NIGHT on which, or ahead of which, all it HANGS on are");
        int[] hangs = {0, 1};
        planned(bill(hangs, 3), 1, 2, 0, 0);
        planned(bill(hangs, 1, 2), 2, 1, 0, 1);
        planned(bill(hangs, 2, 1), 2, 9, 1, -9);
        planned(bill(hangs, 2, 3), 2, 9, 1, 1);
        planned(bill(hangs, 3, 3), 2, 1, 0, 1);
        planned(bill(hangs, 1, 0, 0, 0, 2), 5, 1, 0, 4);
        planned(bill(hangs, 2, 2, 2, 2, 1), 5, 9, 4, -9);
        planned(bill(hangs, 3), 1, 1, 0, -9);
        planned(bill(hangs, 2, 2, 2, 2, 2), 5, 9, -9, -9);
    }

    private static void promise37AllItHangsOn() {
        Due.says("all it HANGS on are");
        int[] hangs = {0, 0, 3};
        planned(bill(hangs, 7), 1, 3, 0, 0, 0);
        planned(bill(hangs, 7), 1, 2, 0, 0, -9);
        planned(bill(hangs, 5, 2, 4), 3, 9, 0, 1, 2);
        planned(bill(hangs, 5, 6), 2, 9, 0, 1, 1);
        planned(bill(hangs, 5, 4), 2, 9, 0, -9, -9);
        planned(bill(hangs, 6, 5), 2, 2, 1, 0, 1);
        int[] both = {0, 1, 1, 1};
        planned(bill(both, 14), 1, 9, -9, -9, -9, -9);
        planned(bill(both, 14, 1), 2, 9, 1, -9, -9, -9);
        planned(bill(both, 14, 15), 2, 9, 1, 1, 1, 1);
        planned(bill(both, 15, 14), 2, 2, 0, 0, 1, 1);
        int[] chain = {0, 1, 2, 4, 8, 16, 32, 64, 128};
        planned(bill(chain, 511, 511, 511, 511, 511), 5, 2, 0, 0, 1, 1, 2, 2, 3, 3, 4);
        planned(bill(chain, 511, 511, 511, 511, 511), 5, 1, 0, 1, 2, 3, 4, -9, -9, -9, -9);
        planned(bill(chain, 510, 511), 2, 9, 1, 1, 1, 1, 1, 1, 1, 1, 1);
        planned(bill(chain, 495), 1, 9, 0, 0, 0, 0, -9, -9, -9, -9, -9);
    }

    private static void promise37OnlyCarried() {
        Due.says("BEST: the most LINES brought and CARRIED (only such are brought)");
        int[] hangs = {0, 1, 0};
        planned(bill(hangs, 6, 6), 2, 9, -9, -9, 0);
        planned(bill(hangs, 0, 0), 2, 9, -9, -9, -9);
        planned(new RottenSeats(), 5, 9);
        RottenSeats x = new RottenSeats();
        x.line(0, 1, 0, 0);
        planned(x, 5, 9, -9);
        // What is wanted of lines that nobody told brings none.
        RottenSeats y = bill(new int[2], 3);
        for (int line = 2; line < 9; line++) {
            y.want(0, line, 9);
        }
        planned(y, 5, 9, 0, 0);
        planned(y, 1, 1, 0, -9);
        y.want(0, 0, -1);
        y.want(0, 1, -1);
        planned(y, 5, 9, -9, -9);
        RottenSeats z = bill(new int[2], 3, 1);
        z.want(1, 2, 9);
        z.want(1, 8, 9);
        planned(z, 2, 1, 1, 0);
    }

    private static void promise38LeastNight() {
        Due.says("of several the first: LINE by LINE the least NIGHT, none last");
        for (int line = 0; line < 9; line++) {
            for (int night = 0; night < 4; night++) {
                int[] can = new int[5];
                can[night] = 1 << line;
                can[4] = 1 << line;
                RottenSeats x = bill(new int[9], can);
                Due.due("line " + line + " on " + night + " or 4", x.nightOf(5, 1, line), night);
                Due.due("line " + line + " on " + night + " or 4, of nine", x.nightOf(5, 9, line), night);
                Due.due("how many", x.nights(5, 1), 1);
            }
        }
    }

    private static void promise38NoneLast() {
        Due.says("LINE by LINE the least NIGHT, none last");
        planned(bill(new int[2], 3), 1, 1, 0, -9);
        planned(bill(new int[3], 0, 7), 2, 1, 1, -9, -9);
        planned(bill(new int[3], 0, 7), 2, 2, 1, 1, -9);
        planned(bill(new int[3], 6, 7), 2, 1, 1, 0, -9);
        planned(bill(new int[3], 4, 7), 2, 1, 1, -9, 0);
        planned(bill(new int[3], 0, 0, 0, 0, 7), 5, 1, 4, -9, -9);
    }

    /** Five for four nights of one each: that line 0 is on night 0 counts most, though 1 is left. */
    private static void promise38LineByLine() {
        Due.says("LINE by LINE the least NIGHT");
        planned(bill(new int[5], 3, 9, 29, 12, 0), 5, 1, 0, -9, 3, 1, 2);
        planned(bill(new int[5], 1, 3, 1, 1, 1), 5, 1, 0, 1, -9, -9, -9);
        planned(bill(new int[2], 3, 3), 2, 1, 0, 1);
        planned(bill(new int[2], 2, 3), 2, 1, 1, 0);
        planned(bill(new int[9], 511, 511, 511, 511, 511), 5, 2, 0, 0, 1, 1, 2, 2, 3, 3, 4);
    }

    private static void promise38MostFirst() {
        Due.says("BEST: the most LINES brought and CARRIED (only such are brought), of several the first");
        // Line 0 waits, for line 1 can be brought on night 0 alone.
        planned(bill(new int[2], 3, 1), 2, 1, 1, 0);
        planned(bill(new int[3], 7, 3, 1), 3, 1, 2, 1, 0);
        planned(bill(new int[5], 31, 15, 7, 3, 1), 5, 1, 4, 3, 2, 1, 0);
        // Line 0 is left out, for 1 and 2 hang together.
        planned(bill(new int[] {0, 0, 2}, 3, 4), 2, 1, -9, 0, 1);
    }

    private static void promise38Last() {
        Due.says("THE BILL: LINES 0 .. 8");
        RottenSeats x = bill(new int[9], 0, 256, 0, 256);
        planned(x, 4, 1, -9, -9, -9, -9, -9, -9, -9, -9, 1);
        planned(x, 1, 9, -9, -9, -9, -9, -9, -9, -9, -9, -9);
        RottenSeats y = bill(new int[9], 255, 256, 256);
        planned(y, 3, 8, 0, 0, 0, 0, 0, 0, 0, 0, 1);
        RottenSeats z = bill(new int[] {0, 0, 0, 0, 0, 0, 0, 0, 255}, 511, 511);
        planned(z, 2, 8, 0, 0, 0, 0, 0, 0, 0, 0, 1);
        planned(z, 2, 4, 0, 0, 0, 0, 1, 1, 1, 1, -9);
        planned(z, 2, 5, 0, 0, 0, 0, 0, 1, 1, 1, 1);
    }

    private static void promise38Refusals() {
        Due.says("The NIGHT of a LINE in it; -9 none. -1; -4; -6.");
        Edge.among("line of a night", 0, 2, -1, (x, v) -> x.nightOf(1, 1, v));
        Edge.range("n nights of a line", 1, -4, 5, -6, (x, n) -> x.nightOf(n, 1, 0));
        Edge.range("c lines a night of a line", 1, -4, 9, -6, (x, c) -> x.nightOf(1, c, 0));
        Edge.refusedWhenFull("one behind the last", -1, x -> x.nightOf(1, 1, 9));
    }

    private static void promise38Order() {
        Due.says("The NIGHT of a LINE in it; -9 none. -1; -4; -6.");
        Edge.refused("no line ahead of below", -1, x -> x.nightOf(0, 0, 3));
        Edge.refused("no line ahead of above", -1, x -> x.nightOf(6, 10, -1));
        Edge.refused("n below ahead of c above", -4, x -> x.nightOf(0, 10, 0));
        Edge.refused("c below ahead of n above", -4, x -> x.nightOf(6, 0, 0));
    }
}
