/** Where promises 26 to 30 end: the lines of the bill, which stand, what they give and take. */
public final class EdgesOfTheBillTest {
    private static final int MIN = Integer.MIN_VALUE;
    private static final int MAX = Integer.MAX_VALUE;

    public static void main(String[] args) {
        promise26Kind();
        promise26Amount();
        promise26Limit();
        promise26Text();
        promise26Hangs();
        promise26HangsOfEach();
        promise26Order();
        promise26Room();
        promise27Others();
        promise27None();
        promise27Needs();
        promise28Chain();
        promise28Alone();
        promise28Refusals();
        promise29Take();
        promise29TakeAtLeast();
        promise29Give();
        promise29GiveAtMost();
        promise29Texts();
        promise29TextThen();
        promise29NoText();
        promise29Known();
        promise29Order();
        promise29Refusals();
        promise30Gain();
        promise30Greatest();
        promise30Lose();
        promise30Votes();
        promise30VotesOfAll();
        promise30VotesOfNobody();
        promise30Refusals();
        promise30Order();
        Due.end();
    }

    /** Places that send so many each, with as many houses as told: ranks by houses. */
    private static RottenSeats places(int[] seats, int... houses) {
        RottenSeats x = new RottenSeats();
        for (int i = 0; i < seats.length; i++) {
            x.place(seats[i], -1);
            x.roll(i, 0, 0, houses[i], 0);
        }
        return x;
    }

    private static void seats(RottenSeats x, int set, int... want) {
        for (int place = 0; place < want.length; place++) {
            Due.due("seats of " + place + " under " + set, x.under(set, place, 0, 0), want[place]);
        }
    }

    private static void texts(RottenSeats x, int set, int... want) {
        for (int place = 0; place < want.length; place++) {
            Due.due("text of " + place + " under " + set, x.under(set, place, 0, 1), want[place]);
        }
    }

    private static void promise26Kind() {
        Due.says("A LINE of THE BILL: its number. -2 kind; -4 (HANGS, too);");
        Edge.among("kind of a line", 0, 2, -2, (x, v) -> x.line(v, 1, 0, 0));
        Edge.refused("kind ahead of below", -2, x -> x.line(3, 0, -1, -1));
        Edge.refused("kind ahead of above", -2, x -> x.line(-1, 3, 10000, 8));
    }

    private static void promise26Amount() {
        Due.says("-6 (n 1, 2, of kind 2, too;");
        for (int kind = 0; kind < 3; kind++) {
            int of = kind;
            Edge.range("n of kind " + kind, 1, -4, 2, -6, (x, v) -> x.line(of, v, 1, 0));
        }
    }

    private static void promise26Limit() {
        Due.says("x 0 .. 9999; 9, too)");
        Edge.range("x of kind 0", 0, -4, 9999, -6, (x, v) -> x.line(0, 1, v, 0));
        Edge.range("x of kind 1", 0, -4, 9999, -6, (x, v) -> x.line(1, 1, v, 0));
    }

    private static void promise26Text() {
        Due.says("-1 TEXT (kind 2); -3 HANGS: not lesser ones.");
        Edge.taken("text 0", x -> x.line(2, 1, 0, 0));
        Edge.taken("text 1", x -> x.line(2, 1, 1, 0));
        Edge.refused("text 2", -1, x -> x.line(2, 1, 2, 0));
        Edge.refused("text 9999", -1, x -> x.line(2, 1, 9999, 0));
        Edge.refused("text 10000", -6, x -> x.line(2, 1, 10000, 0));
        Edge.refused("text MAX", -6, x -> x.line(2, 1, MAX, 0));
        Edge.refused("text -1", -4, x -> x.line(2, 1, -1, 0));
        Edge.refused("text MIN", -4, x -> x.line(2, 1, MIN, 0));
        // Of the other kinds x is no text.
        Edge.taken("x 2 of kind 0", x -> x.line(0, 1, 2, 0));
        Edge.taken("x 2 of kind 1", x -> x.line(1, 1, 2, 0));
    }

    private static void promise26Hangs() {
        Due.says("HANGS: a set of lesser LINES that it needs.");
        Edge.range("hangs of line 3", 0, -4, 7, -3, (x, v) -> x.line(0, 1, 0, v));
        int[] others = {8, 9, 15, 16, 256, 511, 512, 1 << 30, MAX};
        for (int set : others) {
            Edge.refused("line 3 that hangs on " + set, -3, x -> x.line(0, 1, 0, set));
        }
    }

    private static void promise26HangsOfEach() {
        Due.says("-3 HANGS: not lesser ones.");
        RottenSeats x = new RottenSeats();
        for (int line = 0; line < 9; line++) {
            Due.due("line " + line + " that hangs on itself", x.line(0, 1, 0, 1 << line), -3);
            Due.due("line " + line + " that hangs on all and itself", x.line(0, 1, 0, (2 << line) - 1), -3);
            Due.due("line " + line + " that hangs on all lesser ones", x.line(0, 1, 0, (1 << line) - 1), line);
        }
        Due.due("stands(511)", x.stands(511), 511);
        Due.due("stands(255)", x.stands(255), 255);
    }

    private static void promise26Order() {
        Due.says("-2 kind; -4 (HANGS, too); -6 (n 1, 2, of kind 2, too; x 0 .. 9999; 9, too); -1 TEXT (kind 2); "
                + "-3 HANGS: not lesser ones.");
        Edge.refused("n below ahead of x above", -4, x -> x.line(0, 0, 10000, 8));
        Edge.refused("x below ahead of n above", -4, x -> x.line(0, 3, -1, 8));
        Edge.refused("hangs below ahead of n and x above", -4, x -> x.line(0, 3, 10000, -1));
        Edge.refused("hangs below ahead of no text", -4, x -> x.line(2, 1, 2, -1));
        Edge.refused("hangs the least int", -4, x -> x.line(0, 1, 0, MIN));
        Edge.refused("n above ahead of no text", -6, x -> x.line(2, 3, 2, 0));
        Edge.refused("n above ahead of hangs", -6, x -> x.line(0, 3, 0, 8));
        Edge.refused("x above ahead of hangs", -6, x -> x.line(2, 1, 10000, 8));
        Edge.refused("no text ahead of hangs", -1, x -> x.line(2, 1, 2, 8));
    }

    private static void promise26Room() {
        Due.says("THE BILL: LINES 0 .. 8");
        RottenSeats x = new RottenSeats();
        for (int line = 0; line < 9; line++) {
            Due.due("line no " + line, x.line(0, 1, 0, 0), line);
        }
        Due.due("one line more", x.line(0, 1, 0, 0), -6);
        Due.due("count(8)", x.count(8), 9);
        Edge.refusedWhenFull("one line more", -6, y -> y.line(0, 1, 0, 0));
        Edge.refusedWhenFull("one more, no text", -6, y -> y.line(2, 1, 20, 0));
        Edge.refusedWhenFull("one more, hangs on itself", -6, y -> y.line(0, 1, 0, 512));
        Edge.refusedWhenFull("one more, hangs below", -4, y -> y.line(0, 1, 0, -1));
        Edge.refusedWhenFull("one more, no kind", -2, y -> y.line(3, 1, 0, -1));
    }

    private static void promise27Others() {
        Due.says("Which LINES STAND in a set; -9 it has others than told ones.");
        for (int lines = 0; lines <= 9; lines++) {
            RottenSeats x = new RottenSeats();
            for (int i = 0; i < lines; i++) {
                x.line(0, 1, 0, 0);
            }
            int all = (1 << lines) - 1;
            Due.due("stands(all " + lines + ")", x.stands(all), all);
            Due.due("stands(0) of " + lines, x.stands(0), 0);
            for (int set : new int[] {all + 1, all + all / 2 + 2, 1 << 9, 1 << 30, MAX, -1, MIN, MIN | all, ~all}) {
                Due.due("stands(" + set + ") of " + lines, x.stands(set), -9);
            }
            Due.due("refusals", World.refusals(x), 0);
        }
    }

    private static void promise27None() {
        Due.says("one STANDS in it if it is in it, and all that it needs STAND in it");
        RottenSeats x = new RottenSeats();
        x.line(0, 1, 0, 0);
        x.line(0, 1, 0, 1);
        x.line(0, 1, 0, 3);
        int[] stand = {0, 1, 0, 3, 0, 1, 0, 7};
        for (int set = 0; set < 8; set++) {
            Due.due("stands(" + set + ")", x.stands(set), stand[set]);
        }
    }

    /** A chain of nine: only what is whole from the first on stands. */
    private static void promise27Needs() {
        Due.says("and all that it needs STAND in it");
        RottenSeats x = new RottenSeats();
        for (int line = 0; line < 9; line++) {
            x.line(0, 1, 0, line == 0 ? 0 : 1 << line - 1);
        }
        for (int out = 0; out < 9; out++) {
            Due.due("stands(all but " + out + ")", x.stands(511 - (1 << out)), (1 << out) - 1);
        }
        Due.due("stands(510)", x.stands(510), 0);
        Due.due("stands(256)", x.stands(256), 0);
    }

    private static void promise28Chain() {
        Due.says("LINES that would not STAND if one were out of THE BILL (all that are told): a set, that one too.");
        RottenSeats x = new RottenSeats();
        for (int line = 0; line < 9; line++) {
            x.line(0, 1, 0, line == 0 ? 0 : 1 << line - 1);
            Due.due("falls(" + line + ") when it is the last", x.falls(line), 1 << line);
            Due.due("falls(0) of " + line, x.falls(0), (2 << line) - 1);
        }
        for (int line = 0; line < 9; line++) {
            Due.due("falls(" + line + ")", x.falls(line), 511 - ((1 << line) - 1));
        }
    }

    private static void promise28Alone() {
        Due.says("a set, that one too");
        RottenSeats x = new RottenSeats();
        for (int line = 0; line < 9; line++) {
            x.line(0, 1, 0, line == 8 ? 1 : 0);
        }
        for (int line = 0; line < 9; line++) {
            Due.due("falls(" + line + ")", x.falls(line), line == 0 ? 257 : 1 << line);
        }
    }

    private static void promise28Refusals() {
        Due.says("`int falls(int line)`: FALLS. -1.");
        Edge.among("falls of a line", 0, 2, -1, (x, v) -> x.falls(v));
        Edge.refusedWhenFull("falls of one behind the last", -1, x -> x.falls(9));
    }

    private static void promise29Take() {
        Due.says("kind 0 TAKE n SEATS (1, 2) from PLACES whose RANK is below x");
        RottenSeats x = places(new int[] {2, 2, 2}, 30, 20, 10);
        x.line(0, 1, 0, 0);
        x.line(0, 1, 1, 0);
        x.line(0, 1, 2, 0);
        x.line(0, 1, 3, 0);
        x.line(0, 2, 9999, 0);
        seats(x, 1, 2, 2, 2);
        seats(x, 2, 2, 2, 1);
        seats(x, 4, 2, 1, 1);
        seats(x, 8, 1, 1, 1);
        seats(x, 16, 0, 0, 0);
    }

    private static void promise29TakeAtLeast() {
        Due.says("less n (0 at least)");
        RottenSeats x = places(new int[] {0, 1, 2}, 0, 0, 0);
        x.line(0, 2, 9999, 0);
        x.line(0, 1, 9999, 0);
        x.line(1, 1, 0, 0);
        x.line(0, 1, 9999, 0);
        x.line(0, 2, 9999, 0);
        seats(x, 1, 0, 0, 0);
        seats(x, 2, 0, 0, 1);
        seats(x, 3, 0, 0, 0);
        // What was taken below 0 is not owed: one that is given is there.
        seats(x, 5, 1, 1, 1);
        seats(x, 6, 1, 1, 2);
        seats(x, 15, 0, 0, 0);
        seats(x, 16, 0, 0, 0);
        seats(x, 10, 0, 0, 0);
    }

    private static void promise29Give() {
        Due.says("1 GIVE n to PLACES with HOUSES of x or more");
        RottenSeats x = places(new int[] {0, 0, 0}, 0, 9998, 9999);
        x.roll(0, 1, 0, 9999, 0);
        x.line(1, 1, 0, 0);
        x.line(1, 2, 1, 0);
        x.line(1, 1, 9998, 0);
        x.line(1, 1, 9999, 0);
        seats(x, 1, 1, 1, 1);
        seats(x, 2, 0, 2, 2);
        seats(x, 4, 0, 1, 1);
        seats(x, 8, 0, 0, 1);
        seats(x, 15, 1, 4, 5);
    }

    private static void promise29GiveAtMost() {
        Due.says("more n (9 at most)");
        RottenSeats x = places(new int[] {0, 1, 2}, 0, 0, 0);
        for (int line = 0; line < 8; line++) {
            x.line(1, line == 0 ? 1 : 2, 0, 0);
        }
        x.line(0, 1, 9999, 0);
        seats(x, 15, 7, 8, 9);
        seats(x, 31, 9, 9, 9);
        seats(x, 30, 8, 9, 9);
        seats(x, 254, 9, 9, 9);
        seats(x, 255, 9, 9, 9);
        // What was given beyond 9 is not there to be taken.
        seats(x, 511, 8, 8, 8);
    }

    private static void promise29Texts() {
        Due.says("2 OLD becomes TEXT x for PLACES that have SEATS then");
        RottenSeats x = places(new int[] {0, 1, 2}, 0, 0, 0);
        for (int i = 0; i < 3; i++) {
            Due.text(x, "1=" + i);
        }
        x.old(0, 0, 0);
        x.old(1, 0, 0);
        x.line(2, 1, 1, 0);
        x.line(2, 2, 2, 0);
        texts(x, 0, 0, 0, -9);
        texts(x, 1, 0, 1, 1);
        texts(x, 2, 0, 2, 2);
        texts(x, 3, 0, 2, 2);
        seats(x, 3, 0, 1, 2);
    }

    private static void promise29TextThen() {
        Due.says("for PLACES that have SEATS then");
        RottenSeats x = places(new int[] {0, 1, 2}, 0, 0, 0);
        Due.text(x, "1=1");
        Due.text(x, "1=2");
        x.line(0, 1, 9999, 0);
        x.line(2, 1, 0, 0);
        x.line(1, 1, 0, 0);
        x.line(2, 1, 1, 0);
        x.line(0, 2, 9999, 0);
        texts(x, 1, -9, -9, -9);
        texts(x, 2, -9, 0, 0);
        texts(x, 3, -9, -9, 0);
        texts(x, 7, -9, -9, 0);
        texts(x, 15, 1, 1, 1);
        texts(x, 9, -9, -9, 1);
        texts(x, 31, 1, 1, 1);
        seats(x, 31, 0, 0, 0);
    }

    /** What takes and gives seats leaves the text as it is, where it does and where it does not. */
    private static void promise29NoText() {
        Due.says("SEATS of a PLACE (what 0), its TEXT (1; -9)");
        RottenSeats x = places(new int[] {1, 1, 2}, 5, 6, 7);
        Due.text(x, "1=1");
        Due.text(x, "1=2");
        x.old(0, 1, 0);
        x.old(1, 1, 0);
        x.line(0, 1, 0, 0);
        x.line(0, 1, 1, 0);
        x.line(1, 1, 6, 0);
        x.line(1, 1, 1, 0);
        x.line(0, 1, 9999, 0);
        for (int set = 0; set < 32; set++) {
            texts(x, set, 1, 1, -9);
        }
    }

    private static void promise29Known() {
        Due.says("UNDER a set, on a DAY (ROLLS as known now)");
        RottenSeats x = places(new int[] {1, 1}, 5, 6);
        x.line(1, 1, 6, 0);
        x.line(0, 1, 1, 0);
        x.days(10);
        x.roll(0, 0, 4, 7, 0);
        int[][] seats = {{0, 1, 2, 0, 1}, {3, 1, 2, 0, 1}, {4, 2, 2, 1, 0}, {10, 2, 2, 1, 0}, {2000, 2, 2, 1, 0}};
        for (int[] of : seats) {
            Due.due("given to 0 on " + of[0], x.under(1, 0, of[0], 0), of[1]);
            Due.due("given to 1 on " + of[0], x.under(1, 1, of[0], 0), of[2]);
            Due.due("taken from 0 on " + of[0], x.under(2, 0, of[0], 0), of[3]);
            Due.due("taken from 1 on " + of[0], x.under(2, 1, of[0], 0), of[4]);
        }
    }

    private static void promise29Order() {
        Due.says("by STANDING LINES in their order");
        RottenSeats x = places(new int[] {1}, 0);
        x.line(1, 2, 0, 0);
        x.line(0, 2, 9999, 0);
        x.line(1, 1, 0, 2);
        x.line(1, 2, 0, 4);
        int[] seats = {1, 3, 0, 1, 1, 3, 1, 2, 1, 3, 0, 1, 1, 3, 3, 4};
        for (int set = 0; set < 16; set++) {
            Due.due("seats under " + set, x.under(set, 0, 0, 0), seats[set]);
        }
    }

    private static void promise29Refusals() {
        Due.says("its TEXT (1; -9). -1 (a set with others, too); -2; -4; -6.");
        Edge.among("a set under which", 0, 7, -1, (x, v) -> x.under(v, 0, 0, 0));
        Edge.among("a place under a set", 0, 2, -1, (x, v) -> x.under(0, v, 0, 0));
        Edge.among("what under a set", 0, 1, -2, (x, v) -> x.under(0, 0, 0, v));
        Edge.range("a day under a set", 0, -4, 2000, -6, (x, v) -> x.under(0, 0, v, 0));
        Edge.range("a day of a text under a set", 0, -4, 2000, -6, (x, v) -> x.under(7, 2, v, 1));
        Edge.refused("a set with others ahead of what", -1, x -> x.under(8, 0, -1, 2));
        Edge.refused("a set with told ones and others", -1, x -> x.under(15, 0, 2001, -1));
        Edge.refused("no place ahead of what", -1, x -> x.under(0, 3, -1, 2));
        Edge.refused("what ahead of below", -2, x -> x.under(0, 0, -1, 2));
        Edge.refused("what ahead of above", -2, x -> x.under(0, 0, 2001, -1));
        Edge.refusedWhenFull("a set with line 9", -1, x -> x.under(512, 0, 0, 0));
        RottenSeats x = World.full();
        Due.due("seats of the last place under all", x.under(511, 15, 2000, 0) >= 0 ? 1 : 0, 1);
    }

    private static void gains(RottenSeats x, int line, int gain, int lose) {
        Due.due("gain of " + line, x.gain(line, 0, 0), gain);
        Due.due("lose of " + line, x.gain(line, 0, 1), lose);
    }

    private static void promise30Gain() {
        Due.says("by how much SEATS UNDER all LINES are more than UNDER all but that one; LOSE: less");
        RottenSeats x = places(new int[] {0, 1, 2}, 5, 6, 7);
        x.line(1, 1, 0, 0);
        gains(x, 0, 3, 0);
        x.line(1, 2, 6, 0);
        gains(x, 1, 4, 0);
        x.line(0, 1, 9999, 0);
        gains(x, 2, 0, 3);
        gains(x, 0, 2, 0);
        x.line(0, 2, 1, 0);
        // Place 0: 1, then 0 by either of the last two; what is taken below 0 is no loss.
        gains(x, 3, 0, 0);
        gains(x, 2, 0, 2);
        gains(x, 0, 2, 0);
    }

    private static void promise30Greatest() {
        Due.says("GAIN of a LINE: over PLACES");
        int[] none = new int[16];
        RottenSeats x = places(none, none);
        x.line(1, 2, 0, 0);
        gains(x, 0, 32, 0);
        for (int line = 1; line < 9; line++) {
            x.line(1, 2, 0, 1 << line - 1);
        }
        // All hang on the first: 9 seats are the most in each of 16 places.
        gains(x, 0, 144, 0);
        gains(x, 4, 16, 0);
        gains(x, 5, 0, 0);
        gains(x, 8, 0, 0);
        RottenSeats y = places(none, none);
        for (int line = 0; line < 5; line++) {
            y.line(1, 2, 0, 0);
        }
        y.line(0, 2, 9999, 0);
        gains(y, 5, 0, 32);
        gains(y, 0, 16, 0);
    }

    private static void promise30Lose() {
        Due.says("LOSE: less");
        // Line 0 gives to place 0, and line 1, which hangs on it, takes from both.
        RottenSeats x = places(new int[] {0, 2}, 9, 5);
        x.line(1, 1, 9, 0);
        x.line(0, 2, 1, 1);
        gains(x, 0, 1, 2);
        gains(x, 1, 0, 2);
    }

    private static void promise30Votes() {
        Due.says("VOTES: how many PERSONS MAY VOTE (in some PLACE) UNDER all and not without it, less those "
                + "otherwise.");
        RottenSeats x = places(new int[] {1, 0}, 0, 0);
        Due.text(x, "d>0");
        Due.text(x, "d=0");
        x.old(0, 0, 0);
        x.person(0, 0, 0, -1);
        x.person(0, 0, 0, -1);
        x.person(1, 0, 0, -1);
        x.line(2, 1, 1, 0);
        Due.due("one more, two less", x.gain(0, 0, 2), -1);
        x.gone(0);
        Due.due("one more, one less", x.gain(0, 0, 2), 0);
        x.gone(1);
        Due.due("one more", x.gain(0, 0, 2), 1);
        x.old(1, 0, 0);
        Due.due("one who might elsewhere", x.gain(0, 0, 2), 0);
        x.gone(2);
        Due.due("nobody here", x.gain(0, 0, 2), 0);
    }

    private static void promise30VotesOfAll() {
        Due.says("how many PERSONS MAY VOTE (in some PLACE) UNDER all");
        for (int lives = 0; lives < 16; lives += 15) {
            RottenSeats x = new RottenSeats();
            for (int place = 0; place < 16; place++) {
                x.place(1, -1);
            }
            Due.text(x, "d>0");
            Due.text(x, "1=2");
            for (int i = 0; i < 40; i++) {
                x.person(lives, 0, 0, -1);
            }
            x.line(2, 1, 0, 0);
            Due.due("all forty, who live in " + lives, x.gain(0, 0, 2), 40);
            x.line(2, 1, 1, 0);
            Due.due("line 0 when line 1 undoes it", x.gain(0, 0, 2), 0);
            Due.due("line 1, which undoes it", x.gain(1, 0, 2), -40);
        }
    }

    private static void promise30VotesOfNobody() {
        Due.says("MAY VOTE (in some PLACE)");
        RottenSeats x = new RottenSeats();
        Due.text(x, "1=1");
        x.line(2, 1, 0, 0);
        Due.due("without a place", x.gain(0, 0, 2), 0);
        Due.due("gain without a place", x.gain(0, 0, 0), 0);
        x.place(0, -1);
        x.person(0, 0, 0, -1);
        Due.due("in a place without seats", x.gain(0, 0, 2), 0);
        x.place(1, -1);
        Due.due("in some place", x.gain(0, 0, 2), 1);
        // By a day that is ahead of the text in force nothing is had without the line.
        x.old(0, 0, 1);
        Due.due("a day ahead of an old text", x.gain(0, 0, 2), 1);
        Due.due("on its day", x.gain(0, 1, 2), 0);
    }

    private static void promise30Refusals() {
        Due.says("VOTES (2) of a LINE on a DAY. Refused as told: -1; -2; -4; -6.");
        Edge.among("gain of a line", 0, 2, 1000000001, (x, v) -> x.gain(v, 0, 0));
        Edge.among("what of a gain", 0, 2, 1000000002, (x, v) -> x.gain(0, 0, v));
        for (int what = 0; what <= 2; what++) {
            int of = what;
            Edge.range("day of gain " + what, 0, 1000000004, 2000, 1000000006, (x, v) -> x.gain(0, v, of));
        }
        Edge.refusedWhenFull("gain of one behind the last", 1000000001, x -> x.gain(9, 0, 0));
    }

    private static void promise30Order() {
        Due.says("Refused as told: -1; -2; -4; -6.");
        Edge.refused("no line ahead of what", 1000000001, x -> x.gain(3, -1, 3));
        Edge.refused("no line ahead of above", 1000000001, x -> x.gain(-1, 2001, -1));
        Edge.refused("what ahead of below", 1000000002, x -> x.gain(0, -1, 3));
        Edge.refused("what ahead of above", 1000000002, x -> x.gain(0, 2001, -1));
    }
}
