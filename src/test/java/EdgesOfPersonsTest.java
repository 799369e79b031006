/** Where promises 9 to 12 and 16, 17 end: persons, rights, who may vote, and furrows. */
public final class EdgesOfPersonsTest {
    private static final int MIN = Integer.MIN_VALUE;
    private static final int MAX = Integer.MAX_VALUE;

    public static void main(String[] args) {
        promise9Place();
        promise9Since();
        promise9Wish();
        promise9Debt();
        promise9Room();
        promise10Nobody();
        promise10Twice();
        promise11Persons();
        promise11Kinds();
        promise11Hearth();
        promise11Plot();
        promise11Guild();
        promise11Since();
        promise11Room();
        promise12Nobody();
        promise12Told();
        promise12There();
        promise12LastDay();
        promise16Hearth();
        promise16HearthSinceLongest();
        promise16Plots();
        promise16Guild();
        promise16Days();
        promise16DaysOfOneGone();
        promise16EachKind();
        promise16NoText();
        promise16Here();
        promise16Old();
        promise16Refusals();
        promise17Year();
        promise17YearOfDays();
        promise17YearAheadOfDay0();
        promise17SameText();
        promise17Least();
        promise17Refusals();
        Due.end();
    }

    /** Two places with a text each from day 0 on, and two persons in the first; now is a day. */
    private static RottenSeats with(String text, int now) {
        RottenSeats x = new RottenSeats();
        x.place(1, -1);
        x.place(1, -1);
        if (now > 0) {
            x.days(now);
        }
        Due.text(x, text);
        x.old(0, 0, 0);
        x.old(1, 0, 0);
        x.person(0, 0, 0, -1);
        x.person(0, 0, 0, -1);
        return x;
    }

    private static void promise9Place() {
        Due.says("A PERSON: its number. -1; -2 side; -4; -6 (since -2000 .. now; 40, too).");
        Edge.among("a person's place", 0, 2, -1, (x, v) -> x.person(v, 0, 0, -1));
        Edge.refused("no place ahead of side", -1, x -> x.person(3, -2001, 4, 0));
        Edge.refused("no place ahead of above", -1, x -> x.person(-1, 501, -1, 0));
    }

    private static void promise9Since() {
        Due.says("(since -2000 .. now; 40, too)");
        Edge.range("since of a person", -2000, -4, 500, -6, (x, v) -> x.person(0, v, 0, -1));
        RottenSeats x = new RottenSeats();
        x.place(1, -1);
        Due.due("since tomorrow on the first day", x.person(0, 1, 0, -1), -6);
        Due.due("since -2000", x.person(0, -2000, 0, -1), 0);
        Due.due("since now", x.person(0, 0, 0, -1), 1);
        Due.due("d of the first", x.may(0, 0, 2000, 4), 4001);
        Due.due("d of the second", x.may(1, 0, 0, 4), 1);
        x.days(2000);
        Due.due("since the last day", x.person(0, 2000, 0, -1), 2);
        Due.due("since behind the last day", x.person(0, 2001, 0, -1), -6);
    }

    private static void promise9Wish() {
        Due.says("a WISH (a side 0 .. 3)");
        Edge.among("wish", 0, 3, -2, (x, v) -> x.person(0, 0, v, -1));
        Edge.refused("side ahead of below", -2, x -> x.person(0, -2001, 4, -1));
        Edge.refused("side ahead of above", -2, x -> x.person(0, 501, -1, 5));
        RottenSeats x = with("1=1", 0);
        x.person(1, 0, 3, -1);
        Due.due("votes of side 3", x.elect(0, 1, 0, 3), 1);
    }

    private static void promise9Debt() {
        Due.says("a DEBT to a PATRON (0 .. 5, -1 none)");
        Edge.range("debt", -1, -1, 5, -1, (x, v) -> x.person(0, 0, 0, v));
        Edge.refused("no patron ahead of side", -1, x -> x.person(0, -2001, 4, 6));
        Edge.refused("no patron ahead of above", -1, x -> x.person(0, 501, -1, -2));
    }

    private static void promise9Room() {
        Due.says("PERSONS have numbers from 0 on (40 at most)");
        RottenSeats x = new RottenSeats();
        x.place(1, -1);
        for (int i = 0; i < 40; i++) {
            Due.due("person no " + i, x.person(0, -i, 0, -1), i);
        }
        Due.due("one person more", x.person(0, 0, 0, -1), -6);
        for (int i = 0; i < 40; i++) {
            x.gone(i);
        }
        Due.due("one more when all are gone", x.person(0, 0, 0, -1), -6);
        Due.due("count(3)", x.count(3), 0);
        Due.due("d of the last", x.may(39, 0, 0, 4), 40);
        Due.due("one behind the last", x.may(40, 0, 0, 4), -1);
        Edge.refusedWhenFull("one person more", -6, y -> y.person(15, 0, 0, 0));
        Edge.refusedWhenFull("one more, since below", -4, y -> y.person(15, -2001, 0, 0));
        Edge.refusedWhenFull("one more, no side", -2, y -> y.person(15, -2001, 4, 0));
        Edge.refusedWhenFull("one more, no patron", -1, y -> y.person(15, -2001, 4, 6));
    }

    private static void promise10Nobody() {
        Due.says("A PERSON is GONE: 1. -1; -3 so already.");
        Edge.refused("gone(-1)", -1, x -> x.gone(-1));
        Edge.refused("gone(4)", -1, x -> x.gone(4));
        Edge.refused("gone(MIN)", -1, x -> x.gone(MIN));
        Edge.refused("gone(MAX)", -1, x -> x.gone(MAX));
        Edge.refused("gone already", -3, x -> x.gone(2));
        RottenSeats x = World.some();
        Due.due("gone(0)", x.gone(0), 1);
        Due.due("gone(3)", x.gone(3), 1);
        Due.due("count(3)", x.count(3), 1);
    }

    private static void promise10Twice() {
        Due.says("HERE till they are GONE (told)");
        RottenSeats x = with("1=1", 3);
        Due.due("may ahead of it", x.may(0, 0, 0, 0), 1);
        Due.due("gone(0)", x.gone(0), 1);
        for (int day : new int[] {0, 2, 3, 4, 2000}) {
            Due.due("may on " + day, x.may(0, 0, day, 0), 0);
        }
        x.days(9);
        Due.due("gone(0) later", x.gone(0), -3);
        Due.due("gone(0) once more", x.gone(0), -3);
        Due.due("count(3)", x.count(3), 1);
        Due.due("the other", x.may(1, 0, 0, 0), 1);
    }

    private static void promise11Persons() {
        Due.says("A RIGHT: its number. -1; -2 kind; -4;");
        Edge.among("person of a right", 0, 3, -1, (x, v) -> x.right(v, 0, 0, 0, 0));
        Edge.among("place of a right", 0, 2, -1, (x, v) -> x.right(0, v, 0, 0, 0));
        Edge.refused("nobody ahead of kind", -1, x -> x.right(4, 0, 3, 0, -2001));
        Edge.refused("no place ahead of kind", -1, x -> x.right(0, 3, 3, 0, -2001));
        Edge.refused("no place ahead of above", -1, x -> x.right(0, -1, 1, 100, 501));
        // The number of one who is gone is still there.
        Edge.taken("right of one gone", x -> x.right(2, 0, 0, 0, 0));
    }

    private static void promise11Kinds() {
        Due.says("A RIGHT: its number. -1; -2 kind; -4;");
        Edge.among("kind of a right", 0, 2, -2, (x, v) -> x.right(0, 0, v, 1, 0));
        Edge.refused("kind ahead of below", -2, x -> x.right(0, 0, 3, 0, -2001));
        Edge.refused("kind ahead of above", -2, x -> x.right(0, 0, -1, 100, 501));
    }

    private static void promise11Hearth() {
        Due.says("of kind 0 it counts nothing");
        RottenSeats x = with("1=1", 0);
        int[] any = {MIN, -1, 0, 1, 99, 100, MAX};
        for (int i = 0; i < any.length; i++) {
            Due.due("hearth of " + any[i], x.right(0, 0, 0, any[i], 0), i);
        }
        Due.due("h", x.may(0, 0, 0, 1), 1);
        Due.due("p", x.may(0, 0, 0, 2), 0);
        Due.due("g", x.may(0, 0, 0, 3), 0);
        Due.due("refusals", World.refusals(x), 0);
    }

    private static void promise11Plot() {
        Due.says("1 PLOT (of a size 1 .. 99)");
        Edge.range("size of a plot", 1, -4, 99, -6, (x, v) -> x.right(0, 0, 1, v, 0));
        Edge.refused("size below, since above", -4, x -> x.right(0, 0, 1, 0, 501));
        Edge.refused("size above, since below", -4, x -> x.right(0, 0, 1, 100, -2001));
        RottenSeats x = with("1=1", 0);
        x.right(0, 0, 1, 1, 0);
        Due.due("p of the least", x.may(0, 0, 0, 2), 1);
        x.right(0, 0, 1, 99, 0);
        Due.due("p with the greatest", x.may(0, 0, 0, 2), 100);
    }

    private static void promise11Guild() {
        Due.says("2 GUILD (1 by birth, 2 service, 3 purchase)");
        Edge.range("guild", 1, -4, 3, -6, (x, v) -> x.right(0, 0, 2, v, 0));
        Edge.refused("guild below, since above", -4, x -> x.right(0, 0, 2, 0, 501));
        for (int guild = 1; guild <= 3; guild++) {
            RottenSeats x = with("1=1", 0);
            x.right(0, 0, 2, guild, 0);
            Due.due("g of " + guild, x.may(0, 0, 0, 3), guild);
        }
    }

    private static void promise11Since() {
        Due.says("since a DAY (-2000 .. now)");
        for (int kind = 0; kind < 3; kind++) {
            int of = kind;
            Edge.range("since of kind " + kind, -2000, -4, 500, -6, (x, v) -> x.right(0, 0, of, 1, v));
        }
        RottenSeats x = with("1=1", 0);
        Due.due("since tomorrow", x.right(0, 0, 0, 0, 1), -6);
        Due.due("since now", x.right(0, 0, 0, 0, 0), 0);
        Due.due("h of it", x.may(0, 0, 2000, 1), 2001);
        Due.due("since -2000", x.right(0, 0, 0, 0, -2000), 1);
        Due.due("h of it", x.may(0, 0, 2000, 1), 4001);
    }

    private static void promise11Room() {
        Due.says("RIGHTS have numbers from 0 on (80 at most)");
        RottenSeats x = with("p=7920", 0);
        for (int i = 0; i < 80; i++) {
            Due.due("right no " + i, x.right(0, 0, 1, 99, 0), i);
        }
        Due.due("one right more", x.right(1, 0, 0, 0, 0), -6);
        Due.due("p of all", x.may(0, 0, 0, 2), 7920);
        Due.due("may by all", x.may(0, 0, 0, 0), 1);
        Due.due("end of the last", x.end(79), 1);
        Due.due("end of one behind the last", x.end(80), -1);
        Due.due("one more behind an end", x.right(1, 0, 0, 0, 0), -6);
        Due.due("p without the last", x.may(0, 0, 0, 2), 7821);
        Edge.refusedWhenFull("one right more", -6, y -> y.right(0, 0, 0, 0, 0));
        Edge.refusedWhenFull("one more, size below", -4, y -> y.right(0, 0, 1, 0, 0));
        Edge.refusedWhenFull("one more, no kind", -2, y -> y.right(0, 0, 3, 0, 0));
        Edge.refusedWhenFull("one more, nobody", -1, y -> y.right(40, 0, 3, 0, 0));
    }

    private static void promise12Nobody() {
        Due.says("A RIGHT is ENDED: 1. -1; -3 so already.");
        Edge.refused("end(-1)", -1, x -> x.end(-1));
        Edge.refused("end(5)", -1, x -> x.end(5));
        Edge.refused("end(MIN)", -1, x -> x.end(MIN));
        Edge.refused("end(MAX)", -1, x -> x.end(MAX));
        Edge.refused("ended already", -3, x -> x.end(3));
        RottenSeats x = World.some();
        Due.due("end(0)", x.end(0), 1);
        Due.due("end(4)", x.end(4), 1);
        Due.due("count(4)", x.count(4), 5);
    }

    private static void promise12Told() {
        Due.says("ENDED from a DAY on (told once, now)");
        RottenSeats x = with("h>0", 5);
        x.right(0, 0, 0, 0, 0);
        x.days(1);
        Due.due("end(0)", x.end(0), 1);
        Due.due("end(0) on the same day", x.end(0), -3);
        x.days(10);
        Due.due("end(0) later", x.end(0), -3);
        Due.due("h ahead of the end", x.may(0, 0, 5, 1), 6);
        Due.due("h on the first end", x.may(0, 0, 6, 1), 0);
        Due.due("h behind it", x.may(0, 0, 16, 1), 0);
    }

    private static void promise12There() {
        Due.says("It is there on a DAY from its first on, ahead of its end.");
        for (int kind = 0; kind < 3; kind++) {
            RottenSeats x = with("1=1", 100);
            x.right(0, 0, kind, 1, 50);
            x.end(0);
            int[][] days = {{0, 0}, {49, 0}, {50, 1}, {99, kind == 0 ? 50 : 1}, {100, 0}, {101, 0}, {2000, 0}};
            for (int[] day : days) {
                Due.due("kind " + kind + " on " + day[0], x.may(0, 0, day[0], kind + 1), day[1]);
            }
            x.right(0, 0, kind, 1, 100);
            x.end(1);
            Due.due("ended on its first day", x.may(0, 0, 100, kind + 1), 0);
            Due.due("ended on its first day, a day ahead", x.may(0, 0, 99, kind + 1), kind == 0 ? 50 : 1);
        }
    }

    private static void promise12LastDay() {
        Due.says("It is there on a DAY from its first on, ahead of its end.");
        RottenSeats x = with("1=1", 2000);
        x.right(0, 0, 1, 7, 1999);
        Due.due("p on the last day", x.may(0, 0, 2000, 2), 7);
        Due.due("end on the last day", x.end(0), 1);
        Due.due("p on the last day, ended", x.may(0, 0, 2000, 2), 0);
        Due.due("p a day ahead", x.may(0, 0, 1999, 2), 7);
        Due.due("ended already", x.end(0), -3);
        RottenSeats y = with("1=1", 0);
        y.right(0, 0, 1, 7, 0);
        Due.due("end on day 0", y.end(0), 1);
        Due.due("ended already on day 0", y.end(0), -3);
        Due.due("p on day 0", y.may(0, 0, 0, 2), 0);
    }

    private static void promise16Hearth() {
        Due.says("h for how many DAYS a HEARTH is there (the one since longest, and 1; 0 without)");
        RottenSeats x = with("1=1", 10);
        Due.due("h without", x.may(0, 0, 10, 1), 0);
        x.right(0, 0, 1, 1, 0);
        x.right(0, 0, 2, 1, 0);
        Due.due("h of other kinds", x.may(0, 0, 10, 1), 0);
        x.right(0, 0, 0, 0, 10);
        int[][] days = {{0, 0}, {8, 0}, {9, 0}, {10, 1}, {11, 2}, {2000, 1991}};
        for (int[] day : days) {
            Due.due("h on " + day[0], x.may(0, 0, day[0], 1), day[1]);
        }
        Due.due("h elsewhere", x.may(0, 1, 10, 1), 0);
        Due.due("h of another", x.may(1, 0, 10, 1), 0);
    }

    private static void promise16HearthSinceLongest() {
        Due.says("(the one since longest, and 1; 0 without)");
        RottenSeats x = with("1=1", 10);
        x.right(0, 0, 0, 0, 6);
        x.right(0, 0, 0, 0, 2);
        x.right(0, 0, 0, 0, 4);
        Due.due("h of the second", x.may(0, 0, 10, 1), 9);
        Due.due("h when it is the only one", x.may(0, 0, 3, 1), 2);
        x.end(1);
        Due.due("h of the third", x.may(0, 0, 10, 1), 7);
        Due.due("h of the second, a day ahead", x.may(0, 0, 9, 1), 8);
        x.end(2);
        Due.due("h of the first", x.may(0, 0, 10, 1), 5);
        x.end(0);
        Due.due("h of none", x.may(0, 0, 10, 1), 0);
    }

    private static void promise16Plots() {
        Due.says("p the sizes of PLOTS together");
        RottenSeats x = with("1=1", 10);
        Due.due("p without", x.may(0, 0, 10, 2), 0);
        x.right(0, 0, 0, 99, 0);
        x.right(0, 0, 2, 3, 0);
        Due.due("p of other kinds", x.may(0, 0, 10, 2), 0);
        x.right(0, 0, 1, 99, 5);
        x.right(0, 0, 1, 1, 6);
        x.right(0, 1, 1, 50, 0);
        x.right(1, 0, 1, 60, 0);
        int[][] days = {{4, 0}, {5, 99}, {6, 100}, {2000, 100}};
        for (int[] day : days) {
            Due.due("p on " + day[0], x.may(0, 0, day[0], 2), day[1]);
        }
    }

    private static void promise16Guild() {
        Due.says("g the least GUILD (0 none)");
        RottenSeats x = with("1=1", 10);
        Due.due("g without", x.may(0, 0, 10, 3), 0);
        x.right(0, 0, 0, 1, 0);
        x.right(0, 0, 1, 1, 0);
        Due.due("g of other kinds", x.may(0, 0, 10, 3), 0);
        x.right(0, 0, 2, 3, 5);
        x.right(0, 0, 2, 1, 6);
        x.right(0, 0, 2, 2, 7);
        int[][] days = {{4, 0}, {5, 3}, {6, 1}, {7, 1}, {2000, 1}};
        for (int[] day : days) {
            Due.due("g on " + day[0], x.may(0, 0, day[0], 3), day[1]);
        }
        x.end(3);
        Due.due("g without the least", x.may(0, 0, 10, 3), 2);
        x.end(4);
        Due.due("g of the greatest", x.may(0, 0, 10, 3), 3);
        x.end(2);
        Due.due("g of none", x.may(0, 0, 10, 3), 0);
    }

    private static void promise16Days() {
        Due.says("d for how many DAYS the PERSON lives there (GONE or not; and 1; 0 if not there)");
        RottenSeats x = with("1=1", 10);
        x.person(1, 10, 0, -1);
        int[][] days = {{0, 0}, {1, 0}, {7, 0}, {8, 0}, {9, 0}, {10, 1}, {11, 2}, {2000, 1991}};
        for (int[] day : days) {
            Due.due("d on " + day[0], x.may(2, 1, day[0], 4), day[1]);
            Due.due("d elsewhere on " + day[0], x.may(2, 0, day[0], 4), 0);
        }
        x.right(2, 0, 0, 0, 0);
        Due.due("d where only a right is", x.may(2, 0, 10, 4), 0);
        Due.due("d of one who lives in a lesser place", x.may(0, 1, 10, 4), 0);
        // Far ahead of the first day it is 0, not a number below: 0 is not less than 0.
        Due.text(x, "d<1");
        Due.text(x, "0=d");
        x.old(1, 1, 0);
        Due.due("d<1 two days ahead", x.may(2, 1, 8, 0), 1);
        x.old(1, 2, 0);
        Due.due("0=d two days ahead", x.may(2, 1, 8, 0), 1);
        Due.due("0=d on the first", x.may(2, 1, 10, 0), 0);
    }

    private static void promise16DaysOfOneGone() {
        Due.says("(GONE or not; and 1; 0 if not there)");
        RottenSeats x = with("1=1", 10);
        x.right(0, 0, 0, 0, 3);
        x.right(0, 0, 1, 4, 3);
        x.right(0, 0, 2, 2, 3);
        x.gone(0);
        int[] facts = {0, 8, 4, 2, 11};
        for (int what = 0; what < 5; what++) {
            Due.due("part " + what + " of one gone", x.may(0, 0, 10, what), facts[what]);
        }
    }

    private static void promise16EachKind() {
        Due.says("y 1 if the PERSON has a right there of each kind, else 0");
        for (int lacks = 0; lacks < 3; lacks++) {
            RottenSeats x = with("y=1", 10);
            Due.text(x, "y=0");
            x.old(1, 1, 0);
            for (int kind = 0; kind < 3; kind++) {
                if (kind != lacks) {
                    x.right(0, 0, kind, 1, 0);
                    x.right(0, 0, kind, 1, 0);
                }
            }
            x.right(0, 1, lacks, 1, 0);
            x.right(1, 0, lacks, 1, 0);
            Due.due("y without kind " + lacks, x.may(0, 0, 10, 0), 0);
            x.right(0, 0, lacks, 1, 10);
            Due.due("y a day ahead of kind " + lacks, x.may(0, 0, 9, 0), 0);
            Due.due("y with kind " + lacks, x.may(0, 0, 10, 0), 1);
            Due.due("y=0 elsewhere", x.may(0, 1, 10, 0), 1);
            x.end(6);
            Due.due("y when kind " + lacks + " is ended", x.may(0, 0, 10, 0), 0);
        }
    }

    private static void promise16NoText() {
        Due.says("without a TEXT nobody");
        RottenSeats x = new RottenSeats();
        x.place(1, -1);
        x.place(1, -1);
        x.person(0, 0, 0, -1);
        Due.due("may without a text", x.may(0, 0, 0, 0), 0);
        Due.text(x, "1=1");
        Due.due("may with a text that is not told", x.may(0, 0, 2000, 0), 0);
        x.old(1, 0, 0);
        Due.due("may with a text of another place", x.may(0, 0, 2000, 0), 0);
        x.old(0, 0, 1000);
        Due.due("may a day ahead of the text", x.may(0, 0, 999, 0), 0);
        Due.due("may on the first day of the text", x.may(0, 0, 1000, 0), 1);
        Due.due("may on the last day", x.may(0, 0, 2000, 0), 1);
        Due.due("furrows a day ahead of the text", x.furrows(0, 999, 0), 0);
        Due.due("worth without a voter", x.worth(0, 1, 0), 100);
    }

    private static void promise16Here() {
        Due.says("MAY VOTE in a PLACE on a DAY: HERE now");
        RottenSeats x = with("1=1", 10);
        for (int place = 0; place < 2; place++) {
            Due.due("may in " + place, x.may(0, place, 0, 0), 1);
        }
        x.gone(0);
        for (int place = 0; place < 2; place++) {
            Due.due("may in " + place + " when gone", x.may(0, place, 0, 0), 0);
            Due.due("may of the other in " + place, x.may(1, place, 0, 0), 1);
        }
    }

    private static void promise16Old() {
        Due.says("of several the latest DAY not behind, of these told last");
        RottenSeats x = with("1=1", 10);
        Due.text(x, "1=2");
        x.old(0, 1, 20);
        x.old(0, 0, 30);
        x.old(0, 1, 10);
        int[][] days = {{9, 1}, {10, 0}, {19, 0}, {20, 0}, {29, 0}, {30, 1}, {2000, 1}};
        for (int[] day : days) {
            Due.due("may on " + day[0], x.may(0, 0, day[0], 0), day[1]);
        }
        x.old(0, 0, 20);
        Due.due("may by the one told last", x.may(0, 0, 20, 0), 1);
        Due.due("may a day ahead of it", x.may(0, 0, 19, 0), 0);
    }

    private static void promise16Refusals() {
        Due.says("4 d of a PERSON in a PLACE on a DAY. -1; -2; -4; -6.");
        Edge.among("a person who may", 0, 3, -1, (x, v) -> x.may(v, 0, 0, 0));
        Edge.among("a place where one may", 0, 2, -1, (x, v) -> x.may(0, v, 0, 0));
        Edge.among("what one may", 0, 4, -2, (x, v) -> x.may(0, 0, 0, v));
        for (int what = 0; what <= 4; what++) {
            int of = what;
            Edge.range("a day on which one may, " + what, 0, -4, 2000, -6, (x, v) -> x.may(0, 0, v, of));
        }
        Edge.refused("nobody ahead of what", -1, x -> x.may(4, 0, -1, 5));
        Edge.refused("no place ahead of what", -1, x -> x.may(0, 3, 2001, -1));
        Edge.refused("what ahead of below", -2, x -> x.may(0, 0, -1, 5));
        Edge.refused("what ahead of above", -2, x -> x.may(0, 0, 2001, -1));
    }

    private static void furrows(RottenSeats x, int day, int many, int least) {
        Due.due("furrows on " + day, x.furrows(0, day, 0), many);
        Due.due("the least of them on " + day, x.furrows(0, day, 1), least);
    }

    private static void promise17Year() {
        Due.says("but not by the same TEXT with FACTS as of 365 DAYS ahead");
        RottenSeats x = with("h>0", 100);
        x.right(1, 0, 0, 0, 100);
        furrows(x, 99, 0, -9);
        furrows(x, 100, 1, 1);
        furrows(x, 463, 1, 1);
        furrows(x, 464, 1, 1);
        furrows(x, 465, 0, -9);
        furrows(x, 466, 0, -9);
    }

    private static void promise17YearOfDays() {
        Due.says("those whose rights are a year old at most");
        RottenSeats x = with("d>3", 100);
        x.person(0, 100, 0, -1);
        // d is 4 on day 103; 365 days ahead of day 468 it is 4, too.
        furrows(x, 102, 2, 0);
        furrows(x, 103, 3, 0);
        furrows(x, 367, 3, 0);
        furrows(x, 368, 1, 2);
        furrows(x, 467, 1, 2);
        furrows(x, 468, 0, -9);
    }

    private static void promise17YearAheadOfDay0() {
        Due.says("a YEAR is 365 DAYS");
        RottenSeats x = with("h>0", 0);
        x.right(0, 0, 0, 0, -365);
        furrows(x, 0, 0, -9);
        x.right(1, 0, 0, 0, -364);
        furrows(x, 0, 1, 1);
        furrows(x, 1, 0, -9);
        RottenSeats y = with("p>0", 2000);
        y.right(0, 0, 1, 1, 1635);
        y.right(1, 0, 1, 1, 1636);
        furrows(y, 2000, 1, 1);
        furrows(y, 1999, 2, 0);
    }

    private static void promise17SameText() {
        Due.says("but not by the same TEXT");
        RottenSeats x = with("h>0", 1000);
        Due.text(x, "1=1");
        x.old(0, 1, 900);
        // By text 0, in force a year ahead, nobody might vote; by text 1 everybody.
        furrows(x, 1000, 0, -9);
        x.old(0, 0, 1000);
        x.right(0, 0, 0, 0, 0);
        furrows(x, 1000, 0, -9);
        x.right(1, 0, 0, 0, 1000);
        furrows(x, 1000, 1, 1);
        x.gone(1);
        furrows(x, 1000, 0, -9);
    }

    private static void promise17Least() {
        Due.says("FURROWS: how many (what 0), the least PERSON (1; -9).");
        RottenSeats x = with("1=1&d>0", 0);
        for (int i = 2; i < 40; i++) {
            x.person(0, 0, 0, -1);
        }
        furrows(x, 0, 40, 0);
        for (int i = 0; i < 39; i++) {
            x.gone(i);
        }
        furrows(x, 0, 1, 39);
        x.gone(39);
        furrows(x, 0, 0, -9);
        RottenSeats empty = new RottenSeats();
        empty.place(1, -1);
        furrows(empty, 0, 0, -9);
    }

    private static void promise17Refusals() {
        Due.says("the least PERSON (1; -9). -1; -2; -4; -6.");
        Edge.among("furrows of a place", 0, 2, -1, (x, v) -> x.furrows(v, 0, 0));
        Edge.among("what of furrows", 0, 1, -2, (x, v) -> x.furrows(0, 0, v));
        Edge.range("day of furrows", 0, -4, 2000, -6, (x, v) -> x.furrows(0, v, 0));
        Edge.range("day of the least of them", 0, -4, 2000, -6, (x, v) -> x.furrows(0, v, 1));
        Edge.refused("no place ahead of what", -1, x -> x.furrows(3, -1, 2));
        Edge.refused("what ahead of below", -2, x -> x.furrows(0, -1, 2));
        Edge.refused("what ahead of above", -2, x -> x.furrows(0, 2001, -1));
    }
}
