/** Promises 9 to 12 and 16, 17: persons, rights, who may vote, and furrows. */
public final class PersonsTest {
    public static void main(String[] args) {
        promise9Person();
        promise9PersonRoom();
        promise10Gone();
        promise11Right();
        promise11RightRoom();
        promise12End();
        promise16Hearths();
        promise16Plots();
        promise16Guilds();
        promise16Days();
        promise16EachKind();
        promise16TextInForce();
        promise16Refusals();
        promise17Furrows();
        promise17Ends();
        promise17Refusals();
        Due.end();
    }

    private static void promise9Person() {
        RottenSeats x = new RottenSeats();
        Due.due("person in no place", x.person(0, -2001, 4, 0), -1);
        x.place(1, 0);
        x.days(7);
        Due.due("person(0, -2000, 0, -1)", x.person(0, -2000, 0, -1), 0);
        Due.due("person(0, 7, 3, 5)", x.person(0, 7, 3, 5), 1);
        Due.due("debt 6", x.person(0, -2001, 4, 6), -1);
        Due.due("debt -2", x.person(0, 8, 4, -2), -1);
        Due.due("place -1", x.person(-1, 0, 0, 0), -1);
        Due.due("wish 4", x.person(0, -2001, 4, 0), -2);
        Due.due("wish -1", x.person(0, 8, -1, 0), -2);
        Due.due("since -2001", x.person(0, -2001, 0, 0), -4);
        Due.due("since 8", x.person(0, 8, 0, 0), -6);
        Due.due("count(3)", x.count(3), 2);
        Due.refusals("after person", x, 4, 2, 0, 1, 0, 1);
    }

    private static void promise9PersonRoom() {
        RottenSeats x = new RottenSeats();
        x.place(1, 0);
        for (int i = 0; i < 40; i++) {
            Due.due("person no " + i, x.person(0, 0, 0, -1), i);
        }
        x.gone(3);
        Due.due("the 41st", x.person(0, 0, 0, -1), -6);
        Due.due("the 41st, below", x.person(0, -2001, 0, -1), -4);
        Due.due("the 41st, side", x.person(0, -2001, 9, -1), -2);
        Due.due("count(3)", x.count(3), 39);
    }

    private static void promise10Gone() {
        RottenSeats x = new RottenSeats();
        Due.due("gone(0)", x.gone(0), -1);
        x.place(1, 0);
        x.person(0, 0, 0, -1);
        x.person(0, 0, 0, -1);
        Due.due("count(3)", x.count(3), 2);
        Due.due("gone(1)", x.gone(1), 1);
        Due.due("gone(1) again", x.gone(1), -3);
        Due.due("gone(2)", x.gone(2), -1);
        Due.due("gone(-1)", x.gone(-1), -1);
        Due.due("count(3)", x.count(3), 1);
        Due.due("right of one gone", x.right(1, 0, 0, 0, 0), 0);
        Due.due("h of one gone", x.may(1, 0, 0, 1), 1);
        Due.refusals("after gone", x, 3, 0, 1, 0, 0, 0);
    }

    private static void promise11Right() {
        RottenSeats x = new RottenSeats();
        x.place(1, 0);
        Due.due("right of nobody", x.right(0, 0, 3, 0, -2001), -1);
        x.person(0, 0, 0, -1);
        x.days(4);
        Due.due("hearth of any v", x.right(0, 0, 0, Integer.MIN_VALUE, 4), 0);
        Due.due("hearth of great v", x.right(0, 0, 0, Integer.MAX_VALUE, -2000), 1);
        Due.due("plot 1", x.right(0, 0, 1, 1, 0), 2);
        Due.due("plot 99", x.right(0, 0, 1, 99, 0), 3);
        Due.due("guild 1", x.right(0, 0, 2, 1, 0), 4);
        Due.due("guild 3", x.right(0, 0, 2, 3, 0), 5);
        Due.due("no place", x.right(0, 1, 3, 0, 0), -1);
        Due.due("place -1", x.right(0, -1, 0, 0, 0), -1);
        Due.due("person -1", x.right(-1, 0, 0, 0, 0), -1);
        Due.due("kind 3", x.right(0, 0, 3, 0, -2001), -2);
        Due.due("kind -1", x.right(0, 0, -1, 100, 5), -2);
        Due.due("plot 0", x.right(0, 0, 1, 0, 5), -4);
        Due.due("guild 0", x.right(0, 0, 2, 0, 5), -4);
        Due.due("since -2001", x.right(0, 0, 1, 100, -2001), -4);
        Due.due("hearth since -2001", x.right(0, 0, 0, 0, -2001), -4);
        Due.due("plot 100", x.right(0, 0, 1, 100, 0), -6);
        Due.due("guild 4", x.right(0, 0, 2, 4, 0), -6);
        Due.due("since 5", x.right(0, 0, 0, 0, 5), -6);
        Due.due("count(4)", x.count(4), 6);
        Due.refusals("after right", x, 4, 2, 0, 4, 0, 3);
    }

    private static void promise11RightRoom() {
        RottenSeats x = new RottenSeats();
        x.place(1, 0);
        x.person(0, 0, 0, -1);
        for (int i = 0; i < 80; i++) {
            Due.due("right no " + i, x.right(0, 0, 1, 1, 0), i);
        }
        x.end(0);
        Due.due("the 81st", x.right(0, 0, 1, 1, 0), -6);
        Due.due("the 81st, below", x.right(0, 0, 1, 0, 0), -4);
        Due.due("count(4)", x.count(4), 80);
        Due.due("p", x.may(0, 0, 0, 2), 79);
    }

    private static void promise12End() {
        RottenSeats x = new RottenSeats();
        x.place(1, 0);
        x.person(0, 0, 0, -1);
        Due.due("end(0)", x.end(0), -1);
        x.right(0, 0, 1, 4, -5);
        x.right(0, 0, 1, 8, 0);
        Due.due("end(1) on its first day", x.end(1), 1);
        Due.due("p without it", x.may(0, 0, 0, 2), 4);
        x.days(3);
        Due.due("end(0)", x.end(0), 1);
        Due.due("end(0) again", x.end(0), -3);
        x.days(1);
        Due.due("end(1) again", x.end(1), -3);
        Due.due("end(-1)", x.end(-1), -1);
        Due.due("end(2)", x.end(2), -1);
        Due.due("p ahead of its end", x.may(0, 0, 2, 2), 4);
        Due.due("p on its end", x.may(0, 0, 3, 2), 0);
        Due.due("count(4)", x.count(4), 2);
        Due.refusals("after end", x, 3, 0, 2, 0, 0, 0);
    }

    private static RottenSeats one(int since) {
        RottenSeats x = new RottenSeats();
        x.place(1, 0);
        x.place(1, 0);
        x.days(100);
        x.person(0, since, 0, -1);
        x.person(1, since, 0, -1);
        return x;
    }

    private static void promise16Hearths() {
        RottenSeats x = one(0);
        Due.due("h without", x.may(0, 0, 100, 1), 0);
        x.right(0, 0, 0, 0, 50);
        x.right(0, 0, 0, 0, 20);
        x.right(0, 0, 0, 0, 70);
        Due.due("h ahead of all", x.may(0, 0, 19, 1), 0);
        Due.due("h on the first day", x.may(0, 0, 20, 1), 1);
        Due.due("h of the one since longest", x.may(0, 0, 100, 1), 81);
        Due.due("h on a later day", x.may(0, 0, 2000, 1), 1981);
        Due.due("h elsewhere", x.may(0, 1, 100, 1), 0);
        Due.due("h of another", x.may(1, 0, 100, 1), 0);
        x.end(1);
        Due.due("h ahead of the end", x.may(0, 0, 99, 1), 80);
        Due.due("h of the next", x.may(0, 0, 100, 1), 51);
    }

    private static void promise16Plots() {
        RottenSeats x = one(0);
        x.right(0, 0, 1, 99, 50);
        x.right(0, 0, 1, 7, 60);
        x.right(0, 1, 1, 30, 60);
        x.right(1, 0, 1, 20, 60);
        x.right(0, 0, 2, 3, 60);
        Due.due("p ahead", x.may(0, 0, 49, 2), 0);
        Due.due("p of one", x.may(0, 0, 59, 2), 99);
        Due.due("p together", x.may(0, 0, 60, 2), 106);
        Due.due("p elsewhere", x.may(0, 1, 60, 2), 30);
        Due.due("p of another", x.may(1, 0, 60, 2), 20);
    }

    private static void promise16Guilds() {
        RottenSeats x = one(0);
        Due.due("g without", x.may(0, 0, 100, 3), 0);
        x.right(0, 0, 2, 3, 10);
        x.right(0, 0, 2, 2, 20);
        x.right(0, 0, 2, 3, 30);
        x.right(0, 1, 2, 1, 10);
        x.right(0, 0, 1, 1, 10);
        Due.due("g ahead", x.may(0, 0, 9, 3), 0);
        Due.due("g of one", x.may(0, 0, 19, 3), 3);
        Due.due("g least", x.may(0, 0, 30, 3), 2);
        Due.due("g elsewhere", x.may(0, 1, 30, 3), 1);
        x.end(1);
        Due.due("g when the least is ended", x.may(0, 0, 100, 3), 3);
    }

    private static void promise16Days() {
        RottenSeats x = one(40);
        Due.due("d ahead", x.may(0, 0, 39, 4), 0);
        Due.due("d on the first", x.may(0, 0, 40, 4), 1);
        Due.due("d later", x.may(0, 0, 100, 4), 61);
        Due.due("d elsewhere", x.may(0, 1, 100, 4), 0);
        Due.due("d of the other", x.may(1, 1, 2000, 4), 1961);
        x.gone(0);
        Due.due("d of one gone", x.may(0, 0, 100, 4), 61);
    }

    private static void promise16EachKind() {
        RottenSeats x = one(0);
        Due.text(x, "y=1");
        Due.text(x, "y=0");
        x.old(0, 0, 0);
        x.old(1, 1, 0);
        x.right(0, 0, 0, 0, 10);
        x.right(0, 0, 1, 1, 20);
        Due.due("y of two kinds", x.may(0, 0, 100, 0), 0);
        x.right(0, 1, 2, 1, 20);
        Due.due("y of a kind elsewhere", x.may(0, 0, 100, 0), 0);
        x.right(0, 0, 2, 1, 30);
        Due.due("y ahead of the third", x.may(0, 0, 29, 0), 0);
        Due.due("y of each kind", x.may(0, 0, 30, 0), 1);
        Due.due("y 0 elsewhere", x.may(0, 1, 30, 0), 1);
        x.end(0);
        Due.due("y behind an end", x.may(0, 0, 100, 0), 0);
    }

    private static void promise16TextInForce() {
        RottenSeats x = one(0);
        Due.due("without a text", x.may(0, 0, 100, 0), 0);
        Due.text(x, "1=1");
        Due.text(x, "d=0");
        x.old(0, 0, 50);
        Due.due("ahead of the text", x.may(0, 0, 49, 0), 0);
        Due.due("by the text", x.may(0, 0, 50, 0), 1);
        Due.due("one who lives elsewhere", x.may(1, 0, 50, 0), 1);
        Due.due("in another place", x.may(0, 1, 50, 0), 0);
        x.old(0, 1, 60);
        x.old(0, 0, 40);
        Due.due("by the latest text", x.may(0, 0, 60, 0), 0);
        Due.due("by it, elsewhere", x.may(1, 0, 60, 0), 1);
        Due.due("by the one ahead", x.may(0, 0, 59, 0), 1);
        x.old(0, 0, 60);
        Due.due("by the one told last", x.may(0, 0, 60, 0), 1);
        x.gone(0);
        Due.due("one gone", x.may(0, 0, 60, 0), 0);
        Due.due("one gone, ahead", x.may(0, 0, 50, 0), 0);
        Due.due("one here", x.may(1, 0, 60, 0), 1);
    }

    private static void promise16Refusals() {
        RottenSeats x = new RottenSeats();
        x.place(1, 0);
        Due.due("may of nobody", x.may(0, 0, -1, 5), -1);
        x.person(0, 0, 0, -1);
        Due.due("may in no place", x.may(0, 1, -1, 5), -1);
        Due.due("may of -1", x.may(-1, 0, 0, 0), -1);
        Due.due("may in -1", x.may(0, -1, 0, 0), -1);
        Due.due("may what 5", x.may(0, 0, -1, 5), -2);
        Due.due("may what -1", x.may(0, 0, 2001, -1), -2);
        Due.due("may day -1", x.may(0, 0, -1, 0), -4);
        Due.due("may day 2001", x.may(0, 0, 2001, 4), -6);
        Due.due("may day 2000", x.may(0, 0, 2000, 4), 2001);
        Due.refusals("after may", x, 4, 2, 0, 1, 0, 1);
    }

    private static void promise17Furrows() {
        RottenSeats x = new RottenSeats();
        x.place(1, 0);
        x.place(1, 0);
        x.days(500);
        Due.text(x, "h>0");
        Due.text(x, "1=1");
        x.old(0, 0, 100);
        x.old(1, 1, 0);
        for (int i = 0; i < 4; i++) {
            x.person(0, 0, 0, -1);
        }
        x.right(1, 0, 0, 0, 100);
        x.right(2, 0, 0, 0, 101);
        x.right(3, 0, 0, 0, -2000);
        due2(x, "a day ahead of the text", 0, 99, 0, -9);
        due2(x, "on the first day", 0, 100, 1, 1);
        due2(x, "of two", 0, 101, 2, 1);
        due2(x, "a year old at most", 0, 464, 2, 1);
        due2(x, "a year and a day", 0, 465, 1, 2);
        due2(x, "all older", 0, 466, 0, -9);
        due2(x, "whoever always could", 1, 400, 0, -9);
        x.gone(1);
        due2(x, "one gone", 0, 464, 1, 2);
        // The same text counts a year ahead, even where another one was in force then.
        x.old(0, 1, 300);
        due2(x, "by the later text", 0, 464, 0, -9);
        // Facts as of a year ahead of day 0 are asked for, too.
        x.old(0, 0, 0);
        due2(x, "on day 20", 0, 20, 0, -9);
        x.right(0, 0, 0, 0, -345);
        due2(x, "on day 19", 0, 19, 1, 0);
        due2(x, "on day 20 again", 0, 20, 0, -9);
    }

    private static void promise17Ends() {
        RottenSeats x = new RottenSeats();
        x.place(1, 0);
        x.days(400);
        Due.text(x, "p>0");
        x.old(0, 0, 0);
        x.person(0, 0, 0, -1);
        due2(x, "of one without a plot", 0, 400, 0, -9);
        x.right(0, 0, 1, 1, 400);
        due2(x, "of one, the only person", 0, 400, 1, 0);
        for (int i = 1; i < 40; i++) {
            x.person(0, 0, 0, -1);
        }
        x.right(39, 0, 1, 1, 400);
        due2(x, "of the first and the last", 0, 400, 2, 0);
        x.end(0);
        due2(x, "of the last", 0, 400, 1, 39);
    }

    private static void due2(RottenSeats x, String of, int place, int day, int many, int least) {
        Due.due("furrows " + of, x.furrows(place, day, 0), many);
        Due.due("least of furrows " + of, x.furrows(place, day, 1), least);
    }

    private static void promise17Refusals() {
        RottenSeats x = new RottenSeats();
        Due.due("furrows of no place", x.furrows(0, -1, 2), -1);
        x.place(1, 0);
        Due.due("furrows of -1", x.furrows(-1, 0, 0), -1);
        Due.due("furrows what 2", x.furrows(0, -1, 2), -2);
        Due.due("furrows what -1", x.furrows(0, 2001, -1), -2);
        Due.due("furrows day -1", x.furrows(0, -1, 0), -4);
        Due.due("furrows day 2001", x.furrows(0, 2001, 1), -6);
        Due.due("furrows day 2000", x.furrows(0, 2000, 1), -9);
        Due.refusals("after furrows", x, 2, 2, 0, 1, 0, 1);
    }
}
