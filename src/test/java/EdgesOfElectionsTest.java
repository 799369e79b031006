/** Where promises 39 to 43 end: patrons, elections, the row and its check, and the counts. */
public final class EdgesOfElectionsTest {
    private static final int MIN = Integer.MIN_VALUE;
    private static final int MAX = Integer.MAX_VALUE;

    public static void main(String[] args) {
        promise39First();
        promise39Refusals();
        promise40Votes();
        promise40Debt();
        promise40NoPatron();
        promise40NoSeat();
        promise40OneEach();
        promise40Several();
        promise40ManySeats();
        promise40Quarrelled();
        promise40QuarrelledOneEach();
        promise40Under();
        promise40Refusals();
        promise40Order();
        promise41Room();
        promise41Any();
        promise42None();
        promise42First();
        promise42BeyondPlaces();
        promise42NotMore();
        promise42Stays();
        promise42Refusals();
        promise43Others();
        promise43Here();
        promise43Full();
        promise43Refusals();
        Due.end();
    }

    private static void promise39First() {
        Due.says("(a side 0 .. 3, told for PATRONS; PATRON modulo 4 at first)");
        RottenSeats x = new RottenSeats();
        int[] first = {0, 1, 2, 3, 0, 1};
        for (int patron = 0; patron < 6; patron++) {
            Due.due("side of " + patron + " at first", x.patron(patron, 3 - patron % 4), first[patron]);
        }
        for (int patron = 0; patron < 6; patron++) {
            Due.due("side of " + patron + " as told", x.patron(patron, 0), 3 - patron % 4);
            Due.due("side of " + patron + " was 0", x.patron(patron, 3), 0);
        }
    }

    private static void promise39Refusals() {
        Due.says("The side of a PATRON: which it was. -1; -2.");
        Edge.among("patron of a side", 0, 5, -1, (x, v) -> x.patron(v, 0));
        Edge.among("side of a patron", 0, 3, -2, (x, v) -> x.patron(0, v));
        Edge.refused("no patron ahead of side", -1, x -> x.patron(6, 4));
        // -1 is no patron here.
        Edge.refused("no patron -1 ahead of side", -1, x -> x.patron(-1, -1));
    }

    /** A place in which everybody may vote, and so many persons who wish for each side. */
    private static RottenSeats wishes(int seats, int patron, int... many) {
        RottenSeats x = new RottenSeats();
        x.place(Math.min(2, seats), patron);
        Due.text(x, "1=1");
        x.old(0, 0, 0);
        for (int more = 2; more < seats; more++) {
            x.line(1, 1, 0, 0);
        }
        for (int side = 0; side < many.length; side++) {
            for (int i = 0; i < many[side]; i++) {
                x.person(0, 0, side, -1);
            }
        }
        return x;
    }

    private static void elected(RottenSeats x, int in, int quarrelled) {
        int set = (1 << x.count(8)) - 1;
        Due.due("sides that are in", x.elect(set, 0, 0, 4), in);
        Due.due("quarrelled", x.elect(set, 0, 0, 5), quarrelled);
    }

    private static void promise40Votes() {
        Due.says("how many votes a side has (what 0 .. 3)");
        RottenSeats x = wishes(1, -1, 4, 0, 35, 1);
        int[] votes = {4, 0, 35, 1};
        for (int side = 0; side < 4; side++) {
            Due.due("votes of " + side, x.elect(0, 0, 0, side), votes[side]);
        }
        for (int i = 0; i < 40; i++) {
            x.gone(i);
        }
        for (int side = 0; side < 4; side++) {
            Due.due("votes of " + side + " when all are gone", x.elect(0, 0, 0, side), 0);
        }
        elected(x, 0, 0);
    }

    private static void promise40Debt() {
        Due.says("if in DEBT to that PATRON, else by WISH");
        for (int patron = 0; patron < 6; patron++) {
            RottenSeats x = wishes(1, patron);
            for (int debt = -1; debt < 6; debt++) {
                x.person(0, 0, 3, debt);
            }
            x.patron(patron, 2);
            Due.due("votes owed to " + patron, x.elect(0, 0, 0, 2), 1);
            Due.due("votes by wish beside " + patron, x.elect(0, 0, 0, 3), 6);
            x.patron(patron, 3);
            Due.due("votes that are owed and wished", x.elect(0, 0, 0, 3), 7);
        }
    }

    private static void promise40NoPatron() {
        Due.says("a DEBT to a PATRON (0 .. 5, -1 none)");
        RottenSeats x = wishes(1, -1);
        for (int debt = -1; debt < 6; debt++) {
            x.person(0, 0, 3, debt);
        }
        for (int side = 0; side < 4; side++) {
            Due.due("votes of " + side + " without a patron", x.elect(0, 0, 0, side), side == 3 ? 7 : 0);
        }
    }

    private static void promise40NoSeat() {
        Due.says("With SEATS s: the s sides with the most votes");
        elected(wishes(0, -1, 3, 3, 0, 0), 0, 0);
        elected(wishes(0, -1, 10, 10, 10, 10), 0, 0);
        elected(wishes(1, -1, 0, 0, 0, 9), 8, 0);
        elected(wishes(2, -1, 0, 1, 2, 3), 12, 0);
        elected(wishes(3, -1, 1, 2, 3, 4), 14, 0);
        elected(wishes(4, -1, 1, 2, 3, 4), 15, 0);
    }

    private static void promise40OneEach() {
        Due.says("the s sides with the most votes (each 1 at least)");
        elected(wishes(1, -1, 0, 0, 0, 0), 0, 0);
        elected(wishes(1, -1, 0, 0, 1, 0), 4, 0);
        elected(wishes(2, -1, 0, 0, 1, 0), 4, 0);
        elected(wishes(2, -1, 0, 0, 0, 0), 0, 0);
        elected(wishes(3, -1, 1, 0, 0, 1), 9, 0);
        elected(wishes(4, -1, 0, 1, 1, 1), 14, 0);
        elected(wishes(5, -1, 0, 1, 1, 1), 14, 0);
    }

    private static void promise40Several() {
        Due.says("with the most votes (each 1 at least), of several the least");
        elected(wishes(1, -1, 1, 1, 1, 1), 1, 1);
        elected(wishes(2, -1, 1, 1, 1, 1), 3, 1);
        elected(wishes(3, -1, 1, 1, 1, 1), 7, 1);
        elected(wishes(1, -1, 0, 0, 7, 7), 4, 1);
        elected(wishes(2, -1, 3, 5, 3, 3), 3, 1);
        elected(wishes(2, -1, 3, 3, 3, 5), 9, 1);
        elected(wishes(3, -1, 2, 5, 2, 2), 7, 1);
    }

    private static void promise40ManySeats() {
        Due.says("more n (9 at most)");
        for (int seats = 4; seats <= 9; seats++) {
            elected(wishes(seats, -1, 1, 1, 1, 1), 15, 0);
            elected(wishes(seats, -1, 10, 10, 10, 10), 15, 0);
            elected(wishes(seats, -1, 0, 0, 0, 1), 8, 0);
            elected(wishes(seats, -1), 0, 0);
        }
    }

    private static void promise40Quarrelled() {
        Due.says("QUARRELLED if the last that is in and the first that is not have as many votes (1 at least).");
        elected(wishes(1, -1, 5, 4, 0, 0), 1, 0);
        elected(wishes(1, -1, 5, 5, 0, 0), 1, 1);
        elected(wishes(1, -1, 5, 4, 4, 0), 1, 0);
        elected(wishes(2, -1, 5, 4, 4, 0), 3, 1);
        elected(wishes(2, -1, 5, 5, 4, 4), 3, 0);
        elected(wishes(2, -1, 4, 5, 4, 5), 10, 0);
        elected(wishes(2, -1, 5, 5, 5, 4), 3, 1);
        elected(wishes(3, -1, 5, 5, 5, 4), 7, 0);
        elected(wishes(3, -1, 6, 5, 4, 4), 7, 1);
        elected(wishes(3, -1, 4, 4, 5, 6), 13, 1);
    }

    private static void promise40QuarrelledOneEach() {
        Due.says("have as many votes (1 at least)");
        elected(wishes(1, -1, 0, 0, 0, 0), 0, 0);
        elected(wishes(2, -1, 1, 0, 0, 0), 1, 0);
        elected(wishes(2, -1, 1, 1, 0, 0), 3, 0);
        elected(wishes(2, -1, 1, 1, 1, 0), 3, 1);
        elected(wishes(3, -1, 2, 2, 0, 0), 3, 0);
        elected(wishes(0, -1, 2, 2, 2, 2), 0, 0);
    }

    private static void promise40Under() {
        Due.says("who MAY VOTE there (by the TEXT UNDER it)");
        RottenSeats x = wishes(1, -1, 2, 1, 0, 0);
        Due.text(x, "p>0");
        x.right(2, 0, 1, 1, 0);
        x.line(2, 1, 1, 0);
        x.line(0, 1, 9999, 0);
        Due.due("votes of 0 by the old text", x.elect(0, 0, 0, 0), 2);
        Due.due("votes of 0 by the text under it", x.elect(1, 0, 0, 0), 0);
        Due.due("votes of 1 by the text under it", x.elect(1, 0, 0, 1), 1);
        Due.due("in by the text under it", x.elect(1, 0, 0, 4), 2);
        Due.due("votes of 1 where the seat is taken", x.elect(3, 0, 0, 1), 1);
        Due.due("in where the seat is taken", x.elect(3, 0, 0, 4), 0);
        RottenSeats y = wishes(1, -1, 2);
        y.place(1, -1);
        Due.due("votes in a place without a text", y.elect(0, 1, 0, 0), 0);
        y.old(1, 0, 1);
        Due.due("votes a day ahead of its text", y.elect(0, 1, 0, 0), 0);
        Due.due("votes on the day of its text", y.elect(0, 1, 1, 0), 2);
    }

    private static void promise40Refusals() {
        Due.says("4 the sides that are in (bits), 5 1 if QUARRELLED. -1 (a set with others, too); -2; -4; -6.");
        Edge.among("a set to elect under", 0, 7, -1, (x, v) -> x.elect(v, 0, 0, 0));
        Edge.among("a place to elect in", 0, 2, -1, (x, v) -> x.elect(0, v, 0, 0));
        Edge.among("what of an election", 0, 5, -2, (x, v) -> x.elect(0, 0, 0, v));
        for (int what = 0; what <= 5; what++) {
            int of = what;
            Edge.range("a day of election " + what, 0, -4, 2000, -6, (x, v) -> x.elect(0, 0, v, of));
        }
        Edge.refusedWhenFull("a set with line 9", -1, x -> x.elect(512, 0, 0, 0));
        Edge.refusedWhenFull("one place behind the last", -1, x -> x.elect(511, 16, 0, 0));
    }

    private static void promise40Order() {
        Due.says("-1 (a set with others, too); -2; -4; -6.");
        Edge.refused("a set with others ahead of what", -1, x -> x.elect(8, 0, -1, 6));
        Edge.refused("a set below 0 ahead of what", -1, x -> x.elect(-1, 0, 2001, 6));
        Edge.refused("no place ahead of what", -1, x -> x.elect(0, 3, -1, 6));
        Edge.refused("what ahead of below", -2, x -> x.elect(0, 0, -1, 6));
        Edge.refused("what ahead of above", -2, x -> x.elect(0, 0, 2001, -1));
    }

    private static void promise41Room() {
        Due.says("An int more of the ROW: how many. -6 20.");
        RottenSeats x = new RottenSeats();
        for (int i = 1; i <= 20; i++) {
            Due.due("put no " + i, x.put(i), i);
        }
        Due.due("one int more", x.put(0), -6);
        Due.due("count(17)", x.count(17), 20);
        Due.due("check", x.check(0, 0), 0);
        Due.due("put behind a check", x.put(0), 1);
        for (int v : new int[] {MIN, -1, 0, 1, MAX}) {
            Edge.refusedWhenFull("one int more, " + v, -6, y -> y.put(v));
        }
    }

    private static void promise41Any() {
        Due.says("A ROW (20 ints at most) is checked");
        for (int v : new int[] {MIN, -10, -9, -6, -1, 0, 2, 3, 10, MAX}) {
            RottenSeats x = new RottenSeats();
            x.place(1, -1);
            Due.due("put(" + v + ")", x.put(v), 1);
            Due.due("check of " + v, x.check(0, 0), 0);
            Due.due("put(1)", x.put(1), 1);
            Due.due("put(" + v + ") behind it", x.put(v), 2);
            Due.due("check of 1 and " + v, x.check(0, 0), 1);
            Due.due("refusals", World.refusals(x), 0);
        }
    }

    private static void checked(RottenSeats x, int want, int... row) {
        for (int v : row) {
            x.put(v);
        }
        Due.due("check of " + row.length + " of " + x.count(1) + " places", x.check(0, 0), want);
        Due.due("count(17) behind a check", x.count(17), 0);
    }

    private static RottenSeats three() {
        RottenSeats x = new RottenSeats();
        x.place(0, -1);
        x.place(1, -1);
        x.place(2, -1);
        return x;
    }

    private static void promise42None() {
        Due.says("-9 none (and not more than there are)");
        checked(new RottenSeats(), -9);
        checked(three(), -9);
        checked(three(), -9, 0);
        checked(three(), -9, 0, 1);
        checked(three(), -9, 0, 1, 2);
        RottenSeats x = three();
        checked(x, -9, 0, 1, 2);
        checked(x, -9);
        checked(x, -9, 0, 1);
    }

    private static void promise42First() {
        Due.says("the i-th SEATS of PLACE i UNDER a set: the first wrong");
        for (int i = 0; i < 3; i++) {
            int[] row = {0, 1, 2};
            row[i]++;
            checked(three(), i, row);
            row[i] -= 2;
            checked(three(), i, row);
        }
        checked(three(), 0, 1, 2, 3);
        checked(three(), 1, 0, 2, 3);
        checked(three(), 0, 1, 1, 2, 0, 0);
        checked(three(), 2, 0, 1, 0, 0, 0);
    }

    private static void promise42BeyondPlaces() {
        Due.says("the first wrong (one beyond the PLACES, too)");
        checked(new RottenSeats(), 0, 0);
        checked(three(), 3, 0, 1, 2, 0);
        checked(three(), 3, 0, 1, 2, 3);
        checked(three(), 3, 0, 1, 2, -9);
        checked(three(), 3, 0, 1, 2, 0, 0, 0, 0, 0, 0, 0, 0, 0, 0, 0, 0, 0, 0, 0, 0, 0);
        RottenSeats x = new RottenSeats();
        for (int i = 0; i < 16; i++) {
            x.place(i % 3, -1);
        }
        checked(x, -9, 0, 1, 2, 0, 1, 2, 0, 1, 2, 0, 1, 2, 0, 1, 2, 0);
        checked(x, 15, 0, 1, 2, 0, 1, 2, 0, 1, 2, 0, 1, 2, 0, 1, 2, 1);
        checked(x, 16, 0, 1, 2, 0, 1, 2, 0, 1, 2, 0, 1, 2, 0, 1, 2, 0, 0);
        checked(x, 16, 0, 1, 2, 0, 1, 2, 0, 1, 2, 0, 1, 2, 0, 1, 2, 0, 1, 2, 0, 1);
    }

    private static void promise42NotMore() {
        Due.says("-9 none (and not more than there are)");
        RottenSeats x = three();
        checked(x, 3, 0, 1, 2, 0);
        x.place(0, -1);
        checked(x, -9, 0, 1, 2, 0);
        x.line(1, 2, 0, 0);
        x.put(2);
        x.put(3);
        Due.due("check under what gives", x.check(1, 0), -9);
        x.put(2);
        x.put(3);
        Due.due("check under nothing", x.check(0, 0), 0);
        x.days(3);
        x.roll(1, 0, 2, 5, 0);
        x.line(1, 1, 5, 0);
        for (int day = 0; day < 4; day++) {
            x.put(0);
            x.put(2);
            Due.due("check on day " + day, x.check(2, day), day < 2 ? 1 : -9);
        }
    }

    private static void promise42Stays() {
        Due.says("The ROW, which has none then, is checked");
        RottenSeats x = three();
        for (int i = 0; i < 20; i++) {
            x.put(7);
        }
        Due.due("put when full", x.put(7), -6);
        Due.due("check", x.check(0, 0), 0);
        Due.due("count(17)", x.count(17), 0);
        Due.due("check of none", x.check(0, 0), -9);
        for (int i = 0; i < 20; i++) {
            Due.due("put no " + (i + 1) + " once more", x.put(i), i + 1);
        }
        Due.due("put when full once more", x.put(7), -6);
        Due.due("check once more: 0, 1, 2 are right", x.check(0, 0), 3);
    }

    private static void promise42Refusals() {
        Due.says("-1 a set with others; -4; -6. (Refused: it stays.)");
        Edge.among("a set to check under", 0, 7, -1, (x, v) -> x.check(v, 0));
        Edge.range("a day of a check", 0, -4, 2000, -6, (x, v) -> x.check(0, v));
        Edge.refused("a set with others ahead of below", -1, x -> x.check(8, -1));
        Edge.refused("a set below 0 ahead of above", -1, x -> x.check(-1, 2001));
        RottenSeats x = three();
        x.put(0);
        x.put(9);
        int[][] calls = {{1, 0, -1}, {-1, 0, -1}, {0, -1, -4}, {0, 2001, -6}};
        for (int[] call : calls) {
            Due.due("check(" + call[0] + ", " + call[1] + ")", x.check(call[0], call[1]), call[2]);
            Due.due("count(17): it stays", x.count(17), 2);
        }
        Due.due("check of what stayed", x.check(0, 2000), 1);
    }

    private static void promise43Others() {
        Due.says("-9 for another what.");
        for (int what : new int[] {MIN, -18, -11, -9, -1, 18, 19, 99, MAX}) {
            Due.due("count(" + what + ") when new", new RottenSeats().count(what), -9);
            Due.due("count(" + what + ") of some", World.some().count(what), -9);
        }
        RottenSeats x = new RottenSeats();
        x.count(-1);
        x.count(18);
        Due.due("refusals", World.refusals(x), 0);
    }

    private static void promise43Here() {
        Due.says("3 PERSONS HERE, 4 RIGHTS");
        RottenSeats x = three();
        for (int i = 0; i < 40; i++) {
            x.person(0, 0, 0, -1);
            x.right(i, 0, 0, 0, 0);
            x.right(i, 0, 0, 0, 0);
        }
        Due.due("count(3) of all", x.count(3), 40);
        x.gone(0);
        x.gone(39);
        x.gone(39);
        Due.due("count(3) without two", x.count(3), 38);
        x.end(0);
        x.end(79);
        Due.due("count(4): an ended one is still there", x.count(4), 80);
    }

    private static void promise43Full() {
        Due.says("0 DAY, 1 PLACES, 2 ROLLS, 3 PERSONS HERE, 4 RIGHTS, 5 TEXTS, 6 PETITIONS, 7 MEMBERS, 8 LINES, "
                + "9 SALES, 10 bytes of THE TAPE, 11 .. 16 REFUSALS -1 .. -6, 17 ints of the ROW.");
        RottenSeats x = World.full();
        int[] counts = {2000, 16, 120, 40, 80, 20, 10, 40, 9, 30, 40, 0, 0, 0, 0, 0, 0, 20};
        for (int what = 0; what < counts.length; what++) {
            Due.due("count(" + what + ") of the full one", x.count(what), counts[what]);
        }
    }

    private static void promise43Refusals() {
        Due.says("11 .. 16 REFUSALS -1 .. -6");
        RottenSeats x = World.some();
        int[] wants = new int[7];
        for (int i = 0; i < 3; i++) {
            x.gone(99);
            x.want(9, 0, 0);
            wants[1] += 2;
            x.weigh(2, 0);
            x.gain(0, 0, 3);
            wants[2] += 2;
            x.gone(2);
            x.end(3);
            x.line(0, 1, 0, 8);
            wants[3] += 3;
            x.days(0);
            x.bar(0, -100);
            wants[4] += 2;
            x.days(2000);
            x.bar(0, 100);
            x.read(0, 512);
            x.there(0, 0, 41, 41);
            wants[6] += 4;
            for (int number = 1; number <= 6; number++) {
                Due.due("refusals of -" + number, x.count(10 + number), wants[number]);
            }
        }
        // What answers -9 or a fault refuses nothing.
        x.ranked(-1, 0, 0);
        x.stands(-1);
        x.count(-1);
        x.text(false);
        x.text(true);
        x.carry(3, 0);
        x.twice(1);
        Due.due("refusals in all", World.refusals(x), 39);
    }
}
