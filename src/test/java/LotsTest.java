/** Promises 22 to 25: petitions, the witness, members and the lot. */
public final class LotsTest {
    public static void main(String[] args) {
        promise22Fact();
        promise23Ends();
        promise23Witness();
        promise23WitnessOfDoubts();
        promise23Refusals();
        promise24Member();
        promise24MemberRoom();
        promise25Drawn();
        promise25Struck();
        promise25Verdict();
        promise25Refusals();
        Due.end();
    }

    private static void promise22Fact() {
        RottenSeats x = new RottenSeats();
        Due.due("fact of no petition", x.fact(0, 4, 3), -1);
        Due.text(x, "1=1");
        Due.due("fact of a text", x.fact(0, 0, 0), -1);
        Due.petition(x, "a=1");
        Due.petition(x, "b=1");
        for (int which = 0; which < 4; which++) {
            Due.due("fact " + which + " at first", x.fact(0, which, 0), 2);
            Due.due("fact " + which + " not so", x.fact(0, which, 1), 0);
            Due.due("fact " + which + " so", x.fact(0, which, 2), 1);
            Due.due("fact " + which + " open", x.fact(0, which, 2), 2);
            Due.due("fact " + which + " of the other", x.fact(1, which, 2), 2);
        }
        Due.due("fact of -1", x.fact(-1, 4, 3), -1);
        Due.due("fact of 2", x.fact(2, 0, 0), -1);
        Due.due("fact 4", x.fact(0, 4, 0), -2);
        Due.due("fact -1", x.fact(0, -1, 0), -2);
        Due.due("what 3", x.fact(0, 0, 3), -2);
        Due.due("what -1", x.fact(0, 0, -1), -2);
        Due.refusals("after fact", x, 4, 4, 0, 0, 0, 0);
    }

    private static void promise23Ends() {
        RottenSeats x = new RottenSeats();
        Due.petition(x, "a=1&b=0|d>c");
        // d=1, c=0: 4 sets; of the other 12 those with a=1, b=0: 3
        Due.due("ends(0, 0)", x.ends(0, 0), 7);
        Due.due("ends(0, 1)", x.ends(0, 1), 16);
        x.fact(0, 2, 0);
        Due.due("c not so", x.ends(0, 0), 5);
        Due.due("c not so, of", x.ends(0, 1), 8);
        x.fact(0, 0, 1);
        Due.due("a so", x.ends(0, 0), 3);
        Due.due("a so, of", x.ends(0, 1), 4);
        x.fact(0, 3, 0);
        Due.due("d not so", x.ends(0, 0), 1);
        Due.due("d not so, of", x.ends(0, 1), 2);
        x.fact(0, 1, 1);
        Due.due("b so", x.ends(0, 0), 0);
        Due.due("b so, of", x.ends(0, 1), 1);
        x.fact(0, 1, 0);
        Due.due("b not so", x.ends(0, 0), 1);
        x.fact(0, 2, 2);
        Due.due("c open again", x.ends(0, 1), 2);
        Due.petition(x, "a=2|1<0");
        Due.due("never", x.ends(1, 0), 0);
        Due.due("never, of", x.ends(1, 1), 16);
        Due.petition(x, "!(a>1)");
        Due.due("always", x.ends(2, 0), 16);
    }

    private static void promise23Witness() {
        RottenSeats x = new RottenSeats();
        String[] rules = {"a=1", "b=1", "c=1", "d=1", "1=1", "a=b", "c=d", "a=1&b=1|c=1", "d=1&(a=1|b=1)",
            "b=1&(c=1|d=1&a=1)"};
        int[] first = {0, 1, 2, 3, 0, 0, 0, 2, 3, 1};
        for (int i = 0; i < rules.length; i++) {
            Due.petition(x, rules[i]);
            Due.due("witness of " + rules[i], x.ends(i, 2), first[i]);
        }
        x.fact(5, 0, 1);
        Due.due("witness of a=b, a so", x.ends(5, 2), 1);
        x.fact(6, 2, 0);
        Due.due("witness of c=d, c not so", x.ends(6, 2), 3);
        x.fact(4, 0, 0);
        Due.due("witness of 1=1, a told", x.ends(4, 2), 1);
        x.fact(4, 1, 0);
        x.fact(4, 2, 1);
        Due.due("witness of 1=1, d open", x.ends(4, 2), 3);
        x.fact(4, 3, 1);
        Due.due("no witness", x.ends(4, 2), -9);
        x.fact(4, 1, 2);
        Due.due("b open again", x.ends(4, 2), 1);
    }

    private static void promise23WitnessOfDoubts() {
        RottenSeats x = new RottenSeats();
        // a leaves 4 of 8 either way; b and c leave 2 of 8 or 6 of 8; d leaves 4 of 8.
        Due.petition(x, "a=1&b=1|a=0&c=1");
        Due.due("the first of b, c", x.ends(0, 2), 1);
        x.fact(0, 1, 1);
        // b so: a 0 + 2, c 0 + 2, d 1 + 1: the least of equal ones
        Due.due("a of equal ones", x.ends(0, 2), 0);
        x.fact(0, 0, 0);
        Due.due("c decides", x.ends(0, 2), 2);
        // Four of 16, and doubts of 4 together whichever is told: a, b, c 2 + 2, d 4 + 0
        Due.petition(x, "a=b&c=1&d=1|a=b&c=0&d=1");
        Due.due("a of four equal ones", x.ends(1, 2), 0);
        x.fact(1, 0, 1);
        Due.due("b, when a is told", x.ends(1, 2), 1);
    }

    private static void promise23Refusals() {
        RottenSeats x = new RottenSeats();
        Due.due("ends of no petition", x.ends(0, 3), -1);
        Due.petition(x, "a=1");
        Due.due("ends of 1", x.ends(1, 0), -1);
        Due.due("ends of -1", x.ends(-1, 0), -1);
        Due.due("ends what 3", x.ends(0, 3), -2);
        Due.due("ends what -1", x.ends(0, -1), -2);
        Due.refusals("after ends", x, 3, 2, 0, 0, 0, 0);
    }

    private static void promise24Member() {
        RottenSeats x = new RottenSeats();
        Due.due("member(0, -9)", x.member(0, -9), 0);
        Due.due("member(7, 9)", x.member(7, 9), 1);
        Due.due("member(8, -10)", x.member(8, -10), -1);
        Due.due("member(-1, 10)", x.member(-1, 10), -1);
        Due.due("member(0, -10)", x.member(0, -10), -4);
        Due.due("member(0, 10)", x.member(0, 10), -6);
        Due.due("count(7)", x.count(7), 2);
        Due.refusals("after member", x, 2, 0, 0, 1, 0, 1);
    }

    private static void promise24MemberRoom() {
        RottenSeats x = new RottenSeats();
        for (int i = 0; i < 40; i++) {
            Due.due("member no " + i, x.member(i % 8, 0), i);
        }
        Due.due("the 41st", x.member(0, 0), -6);
        Due.due("the 41st, below", x.member(0, -10), -4);
        Due.due("the 41st, no knot", x.member(8, 0), -1);
        Due.due("count(7)", x.count(7), 40);
    }

    private static void judges(RottenSeats x, int seed, int... want) {
        for (int i = 0; i < want.length; i++) {
            Due.due("lot(" + seed + ", " + i + ")", x.lot(seed, i), want[i]);
        }
    }

    private static void promise25Drawn() {
        // With no leans each side strikes the least number that is left: 6 of the 11 in all.
        RottenSeats x = new RottenSeats();
        for (int i = 0; i < 11; i++) {
            x.member(0, 0);
        }
        judges(x, 0, 6, 7, 8, 9, 10, 0);
        judges(x, 9999, 6, 7, 8, 9, 10, 0);
        RottenSeats y = new RottenSeats();
        for (int i = 0; i < 40; i++) {
            y.member(0, 0);
        }
        judges(y, 0, drawnBySeed(0));
        judges(y, 5, drawnBySeed(5));
        judges(y, 9999, drawnBySeed(9999));
    }

    /** The 5 greatest of the 11 drawn of 40, taken from a row that closes up. */
    private static int[] drawnBySeed(int seed) {
        java.util.List<Integer> row = new java.util.ArrayList<>();
        for (int i = 0; i < 40; i++) {
            row.add(i);
        }
        java.util.TreeSet<Integer> drawn = new java.util.TreeSet<>();
        long turn = seed;
        for (int i = 0; i < 11; i++) {
            turn = (turn * 61 + 17) % 9973;
            drawn.add(row.remove((int) (turn % row.size())));
        }
        return drawn.stream().skip(6).mapToInt(Integer::intValue).toArray();
    }

    private static void promise25Struck() {
        // Side 0 strikes 9, 8, 7; side 1 strikes -9, -8, -7.
        judges(World.leans(9, -9, 1, 8, -8, 2, 7, -7, 3, -1, 0), 1, 2, 5, 8, 9, 10, 1);
        // Of several the least number: 0, 1, 2 by side 0; 6, 7, 8 by side 1.
        judges(World.leans(5, 5, 5, 5, 5, 5, -5, -5, -5, -5, -5), 1, 3, 4, 5, 9, 10, 1);
        // Side 0 is first: of one lean left for both it takes the least number ahead of side 1.
        judges(World.leans(1, 0, 0, 0, 0, 0, 0, 0, 0, 0, 0), 1, 6, 7, 8, 9, 10, 0);
        judges(World.leans(0, 0, 0, 0, 0, 0, 0, 0, 0, 0, 1), 1, 5, 6, 7, 8, 9, 0);
        judges(World.leans(0, 0, 0, 0, 0, 0, 0, 0, 0, 0, -1), 1, 5, 6, 7, 8, 9, 0);
    }

    private static void promise25Verdict() {
        int five = 5;
        Due.due("sum 0", World.leans(9, 9, 9, -9, -9, -9, 0, 0, 0, 0, 0).lot(1, five), 0);
        Due.due("sum 1", World.leans(9, 9, 9, -9, -9, -9, 0, 0, 1, 0, 0).lot(1, five), 1);
        Due.due("sum -1", World.leans(9, 9, 9, -9, -9, -9, 0, 0, -1, 0, 0).lot(1, five), 0);
        Due.due("the first member decides", World.leans(1, 9, 9, 9, -9, -9, -9, 0, 0, 0, 0).lot(1, five), 1);
        Due.due("the first member sits", World.leans(1, 9, 9, 9, -9, -9, -9, 0, 0, 0, 0).lot(1, 0), 0);
        Due.due("the last member decides", World.leans(9, 9, 9, -9, -9, -9, 0, 0, 0, 0, 1).lot(1, five), 1);
        Due.due("sum of 1, 1, -1", World.leans(9, 9, 9, -9, -9, -9, 1, 1, -1, 0, 0).lot(1, five), 1);
    }

    private static void promise25Refusals() {
        RottenSeats x = new RottenSeats();
        for (int i = 0; i < 10; i++) {
            x.member(0, 0);
        }
        Due.due("lot what 6", x.lot(-1, 6), -2);
        Due.due("lot what -1", x.lot(10000, -1), -2);
        Due.due("lot seed -1", x.lot(-1, 0), -4);
        Due.due("lot seed 10000", x.lot(10000, 5), -6);
        Due.due("lot of ten", x.lot(0, 5), -3);
        Due.refusals("after lot", x, 0, 2, 1, 1, 0, 1);
        x.member(0, 0);
        Due.due("lot of eleven", x.lot(0, 5), 0);
    }
}
