/** Promises 39 to 43: patrons, elections, the row and its check, and the counts. */
public final class ElectionsTest {
    public static void main(String[] args) {
        promise39Patron();
        promise40Votes();
        promise40Debts();
        promise40In();
        promise40Quarrelled();
        promise40Under();
        promise40Refusals();
        promise41Put();
        promise42Check();
        promise42Under();
        promise42Refusals();
        promise43Count();
        Due.end();
    }

    private static void promise39Patron() {
        RottenSeats x = new RottenSeats();
        for (int patron = 0; patron < 6; patron++) {
            Due.due("patron(" + patron + ", 3)", x.patron(patron, 3), patron % 4);
        }
        Due.due("patron(0, 0)", x.patron(0, 0), 3);
        Due.due("patron(0, 1)", x.patron(0, 1), 0);
        Due.due("patron(5, 1)", x.patron(5, 1), 3);
        Due.due("patron(6, 4)", x.patron(6, 4), -1);
        Due.due("patron(-1, 0)", x.patron(-1, 0), -1);
        Due.due("patron(0, 4)", x.patron(0, 4), -2);
        Due.due("patron(0, -1)", x.patron(0, -1), -2);
        Due.due("patron(0, 0)", x.patron(0, 0), 1);
        Due.refusals("after patron", x, 2, 2, 0, 0, 0, 0);
    }

    private static void votes(RottenSeats x, int place, int... want) {
        for (int side = 0; side < want.length; side++) {
            Due.due("votes of " + side + " in " + place, x.elect(0, place, 0, side), want[side]);
        }
    }

    private static RottenSeats open(int seats, int patron) {
        RottenSeats x = new RottenSeats();
        x.place(seats, patron);
        Due.text(x, "1=1");
        x.old(0, 0, 0);
        return x;
    }

    private static void wishes(RottenSeats x, int... many) {
        for (int side = 0; side < many.length; side++) {
            for (int i = 0; i < many[side]; i++) {
                x.person(0, 0, side, -1);
            }
        }
    }

    private static void promise40Votes() {
        RottenSeats x = open(1, -1);
        x.place(1, -1);
        votes(x, 0, 0, 0, 0, 0);
        wishes(x, 4, 3, 2, 1);
        votes(x, 0, 4, 3, 2, 1);
        votes(x, 1, 0, 0, 0, 0);
        x.gone(0);
        x.gone(9);
        votes(x, 0, 3, 3, 2, 0);
        Due.text(x, "d>0");
        x.old(1, 1, 0);
        x.person(1, 0, 2, -1);
        votes(x, 1, 0, 0, 1, 0);
        votes(x, 0, 3, 3, 3, 0);
    }

    private static void promise40Debts() {
        RottenSeats x = open(1, 5);
        x.place(1, 0);
        x.place(1, -1);
        x.old(1, 0, 0);
        x.old(2, 0, 0);
        x.person(0, 0, 3, 5);
        x.person(0, 0, 3, 0);
        x.person(0, 0, 3, 1);
        x.person(0, 0, 3, -1);
        // Patron 5 is for side 1, patron 0 for side 0; without a patron nobody is in debt.
        votes(x, 0, 0, 1, 0, 3);
        votes(x, 1, 1, 0, 0, 3);
        votes(x, 2, 0, 0, 0, 4);
        x.patron(5, 2);
        votes(x, 0, 0, 0, 1, 3);
        votes(x, 1, 1, 0, 0, 3);
    }

    private static void in(int seats, int bits, int quarrelled, int... many) {
        RottenSeats x = open(Math.min(2, seats), -1);
        wishes(x, many);
        int set = 0;
        for (int more = 2; more < seats; more++) {
            set |= 1 << x.line(1, 1, 0, 0);
        }
        StringBuilder of = new StringBuilder(seats + " seats:");
        for (int votes : many) {
            of.append(' ').append(votes);
        }
        Due.due("in of " + of, x.elect(set, 0, 0, 4), bits);
        Due.due("quarrelled of " + of, x.elect(set, 0, 0, 5), quarrelled);
    }

    private static void promise40In() {
        in(0, 0, 0, 3, 2, 1, 0);
        in(1, 1, 0, 3, 2, 1, 0);
        in(1, 8, 0, 0, 1, 2, 3);
        in(2, 12, 0, 0, 1, 2, 3);
        in(2, 5, 0, 3, 0, 1, 0);
        in(2, 2, 0, 0, 1, 0, 0);
        in(2, 0, 0, 0, 0, 0, 0);
        in(3, 14, 0, 1, 2, 3, 4);
        in(3, 10, 0, 0, 2, 0, 4);
        in(4, 15, 0, 1, 1, 1, 1);
        in(5, 15, 0, 1, 2, 1, 1);
        in(9, 7, 0, 1, 2, 1, 0);
    }

    private static void promise40Quarrelled() {
        in(1, 1, 1, 2, 2, 0, 0);
        in(1, 2, 1, 1, 2, 2, 2);
        in(2, 3, 0, 2, 2, 0, 0);
        in(2, 3, 1, 2, 2, 2, 0);
        in(2, 3, 1, 2, 1, 1, 1);
        in(2, 9, 0, 2, 1, 1, 3);
        in(2, 12, 0, 1, 1, 2, 3);
        in(2, 9, 1, 1, 1, 1, 3);
        in(3, 7, 1, 2, 2, 1, 1);
        in(0, 0, 0, 2, 2, 2, 2);
        in(1, 0, 0, 0, 0, 0, 0);
        in(3, 6, 0, 0, 2, 2, 0);
    }

    private static void promise40Under() {
        RottenSeats x = open(1, -1);
        Due.text(x, "h>0");
        x.days(10);
        wishes(x, 2, 1, 1, 0);
        x.right(3, 0, 0, 0, 5);
        x.line(2, 1, 1, 0);
        x.line(1, 1, 0, 0);
        x.line(2, 1, 0, 2);
        Due.due("votes by the old text", x.elect(0, 0, 5, 0), 2);
        Due.due("votes by the text under it", x.elect(1, 0, 5, 0), 0);
        Due.due("votes by the right", x.elect(1, 0, 5, 2), 1);
        Due.due("votes a day ahead", x.elect(1, 0, 4, 2), 0);
        Due.due("in by the text under it", x.elect(1, 0, 5, 4), 4);
        Due.due("in by two seats", x.elect(2, 0, 5, 4), 3);
        Due.due("quarrelled with two seats", x.elect(2, 0, 5, 5), 1);
        Due.due("quarrelled with one", x.elect(0, 0, 5, 5), 0);
        Due.due("votes by the text brought back", x.elect(7, 0, 5, 0), 2);
        Due.due("votes without what it hangs on", x.elect(5, 0, 5, 0), 0);
    }

    private static void promise40Refusals() {
        RottenSeats x = open(1, -1);
        Due.due("a set with others", x.elect(1, 0, -1, 6), -1);
        Due.due("a set below 0", x.elect(-1, 0, -1, 6), -1);
        Due.due("elect in 1", x.elect(0, 1, -1, 6), -1);
        Due.due("elect in -1", x.elect(0, -1, 0, 0), -1);
        Due.due("elect what 6", x.elect(0, 0, -1, 6), -2);
        Due.due("elect what -1", x.elect(0, 0, 2001, -1), -2);
        Due.due("elect day -1", x.elect(0, 0, -1, 0), -4);
        Due.due("elect day 2001", x.elect(0, 0, 2001, 5), -6);
        Due.due("elect day 2000", x.elect(0, 0, 2000, 5), 0);
        Due.refusals("after elect", x, 4, 2, 0, 1, 0, 1);
    }

    private static void promise41Put() {
        RottenSeats x = new RottenSeats();
        int[] any = {0, -1, Integer.MIN_VALUE, Integer.MAX_VALUE};
        for (int i = 1; i <= 20; i++) {
            Due.due("put no " + i, x.put(any[i % 4]), i);
        }
        Due.due("put no 21", x.put(0), -6);
        Due.due("count(17)", x.count(17), 20);
        Due.refusals("after put", x, 0, 0, 0, 0, 0, 1);
    }

    private static void checked(RottenSeats x, int want, int... row) {
        for (int v : row) {
            x.put(v);
        }
        Due.due("check of " + row.length, x.check(0, 0), want);
        Due.due("count(17) behind check", x.count(17), 0);
    }

    private static void promise42Check() {
        RottenSeats x = new RottenSeats();
        checked(x, -9);
        checked(x, 0, 0);
        x.place(1, 0);
        x.place(2, 0);
        x.place(0, 0);
        checked(x, -9);
        checked(x, -9, 1);
        checked(x, -9, 1, 2);
        checked(x, -9, 1, 2, 0);
        checked(x, 3, 1, 2, 0, 0);
        checked(x, 0, 2, 2, 0);
        checked(x, 1, 1, 1, 1);
        checked(x, 2, 1, 2, 1);
        checked(x, 1, 1, 1, 0, 0);
        checked(x, 3, 1, 2, 0, 0, 0, 0, 0, 0, 0, 0, 0, 0, 0, 0, 0, 0, 0, 0, 0, 0);
        for (int i = 3; i < 16; i++) {
            x.place(0, 0);
        }
        checked(x, -9, 1, 2, 0, 0, 0, 0, 0, 0, 0, 0, 0, 0, 0, 0, 0, 0);
        checked(x, 16, 1, 2, 0, 0, 0, 0, 0, 0, 0, 0, 0, 0, 0, 0, 0, 0, 0, 0, 0, 0);
    }

    private static void promise42Under() {
        RottenSeats x = new RottenSeats();
        x.place(1, 0);
        x.place(2, 0);
        x.days(5);
        x.roll(0, 0, 5, 10, 0);
        x.line(0, 1, 1, 0);
        int[][] rows = {{0, 0, 1, 2, -9}, {1, 0, 1, 2, 0}, {1, 0, 0, 2, -9}, {1, 5, 0, 2, 0}, {1, 5, 1, 1, -9}};
        for (int[] r : rows) {
            x.put(r[2]);
            x.put(r[3]);
            Due.due("check(" + r[0] + ", " + r[1] + ")", x.check(r[0], r[1]), r[4]);
        }
    }

    private static void promise42Refusals() {
        RottenSeats x = new RottenSeats();
        x.place(1, 0);
        x.put(1);
        x.put(7);
        Due.due("a set with others", x.check(1, -1), -1);
        Due.due("a set below 0", x.check(-1, 2001), -1);
        Due.due("check day -1", x.check(0, -1), -4);
        Due.due("check day 2001", x.check(0, 2001), -6);
        Due.due("count(17): it stays", x.count(17), 2);
        Due.due("check day 2000", x.check(0, 2000), 1);
        Due.due("count(17): none", x.count(17), 0);
        Due.refusals("after check", x, 2, 0, 0, 1, 0, 1);
    }

    private static void promise43Count() {
        RottenSeats x = new RottenSeats();
        x.days(17);
        for (int i = 0; i < 2; i++) {
            x.place(1, 0);
        }
        for (int i = 0; i < 3; i++) {
            x.roll(0, 0, 0, 1, 0);
        }
        for (int i = 0; i < 5; i++) {
            x.person(0, 0, 0, 0);
        }
        x.gone(4);
        for (int i = 0; i < 5; i++) {
            x.right(0, 0, 0, 0, 0);
        }
        x.end(0);
        for (int i = 0; i < 6; i++) {
            Due.text(x, "1=1");
        }
        for (int i = 0; i < 7; i++) {
            Due.petition(x, "1=1");
        }
        for (int i = 0; i < 8; i++) {
            x.member(0, 0);
            x.line(0, 1, 0, 0);
        }
        x.member(0, 0);
        for (int i = 0; i < 10; i++) {
            x.sell(0, 0, 0, 0);
            x.put(0);
        }
        Due.feed(x, "hello world");
        int[] want = {17, 2, 3, 4, 5, 6, 7, 9, 8, 10, 11, 0, 0, 0, 0, 0, 0, 10};
        for (int what = 0; what < want.length; what++) {
            Due.due("count(" + what + ")", x.count(what), want[what]);
        }
        x.gone(9);
        x.fact(0, 4, 0);
        x.fact(0, 4, 0);
        for (int i = 0; i < 3; i++) {
            x.gone(4);
        }
        for (int i = 0; i < 4; i++) {
            x.bar(0, -100);
        }
        for (int i = 0; i < 6; i++) {
            x.days(2000);
        }
        Due.refusals("of each number", x, 1, 2, 3, 4, 0, 6);
        Due.due("count(-1)", x.count(-1), -9);
        Due.due("count(18)", x.count(18), -9);
        Due.due("count(MIN)", x.count(Integer.MIN_VALUE), -9);
        Due.due("count(MAX)", x.count(Integer.MAX_VALUE), -9);
        Due.refusals("behind wrong counts", x, 1, 2, 3, 4, 0, 6);
    }
}
