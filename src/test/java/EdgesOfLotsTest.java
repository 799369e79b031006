import java.util.ArrayList;
import java.util.Arrays;
import java.util.List;

/** Where promises 22 to 25 end: petitions, the witness, members and the lot. */
public final class EdgesOfLotsTest {
    public static void main(String[] args) {
        promise22First();
        promise22Refusals();
        promise22Each();
        promise23All();
        promise23OneLeft();
        promise23EachFactSo();
        promise23EachSet();
        promise23WitnessOfOne();
        promise23NoWitness();
        promise23WitnessOfSeveral();
        promise23Doubt();
        promise23Refusals();
        promise24Knot();
        promise24Lean();
        promise24Room();
        promise25Fewer();
        promise25What();
        promise25Seed();
        promise25Order();
        promise25Modulo();
        promise25Drawn();
        promise25Turns();
        promise25Several();
        promise25Verdict();
        Due.end();
    }

    private static RottenSeats petition(String rule) {
        RottenSeats x = new RottenSeats();
        Due.due("petition " + rule, Due.petition(x, rule), 0);
        return x;
    }

    private static void tell(RottenSeats x, String facts) {
        for (int i = 0; i < 4; i++) {
            x.fact(0, i, "01?".indexOf(facts.charAt(i)));
        }
    }

    private static void promise22First() {
        Due.says("0 not so, 1 so, 2 open: what it was (2 at first). -1; -2.");
        RottenSeats x = petition("a=1");
        for (int which = 0; which < 4; which++) {
            Due.due("fact " + which + " at first", x.fact(0, which, 0), 2);
            Due.due("fact " + which + " was not so", x.fact(0, which, 1), 0);
            Due.due("fact " + which + " was so", x.fact(0, which, 2), 1);
            Due.due("fact " + which + " was open", x.fact(0, which, 2), 2);
        }
        RottenSeats y = World.full();
        for (int which = 0; which < 4; which++) {
            Due.due("fact " + which + " of the last at first", y.fact(9, which, which % 3), 2);
            Due.due("fact " + which + " of the one ahead", y.fact(8, which, 2), 2);
        }
    }

    private static void promise22Refusals() {
        Due.says("A fact (0 .. 3) of a PETITION: 0 not so, 1 so, 2 open");
        Edge.among("fact of a petition", 0, 0, -1, (x, v) -> x.fact(v, 0, 0));
        Edge.among("which fact", 0, 3, -2, (x, v) -> x.fact(0, v, 0));
        Edge.among("what a fact is", 0, 2, -2, (x, v) -> x.fact(0, 0, v));
        Edge.refused("no petition ahead of which", -1, x -> x.fact(1, 4, 3));
        Edge.refused("no petition ahead of what", -1, x -> x.fact(-1, 0, -1));
        Edge.refusedWhenFull("fact of one behind the last", -1, x -> x.fact(10, 0, 0));
        // A text is no petition.
        Edge.refused("fact of a text", -1, x -> x.fact(1, 0, 0));
    }

    private static void promise22Each() {
        Due.says("those that are told to be so, told not to be so, others open");
        RottenSeats x = petition("a=1");
        Due.petition(x, "a=1");
        x.fact(0, 0, 1);
        Due.due("ends of the first", x.ends(0, 1), 8);
        Due.due("ends of the other", x.ends(1, 1), 16);
        x.fact(0, 0, 0);
        Due.due("ends of the first, not so", x.ends(0, 0), 0);
        x.fact(0, 0, 2);
        Due.due("ends of the first, open again", x.ends(0, 0), 8);
    }

    private static void promise23All() {
        Due.says("in how many of the sets that may be the RULE holds (part 0), of how many (1)");
        String[] rules = {"0=1", "1=1", "a<1|a>0", "a<0", "a>1", "a=2", "a<2", "a=a"};
        int[] hold = {0, 16, 16, 0, 0, 0, 16, 16};
        for (int i = 0; i < rules.length; i++) {
            Due.due("ends of " + rules[i], petition(rules[i]).ends(0, 0), hold[i]);
            Due.due("all of " + rules[i], petition(rules[i]).ends(0, 1), 16);
        }
    }

    private static void promise23OneLeft() {
        Due.says("in how many of the sets that may be the RULE holds (part 0), of how many (1)");
        for (int set = 0; set < 16; set++) {
            RottenSeats x = petition("a=1&b=0|c=1&d=1");
            int[] is = new int[4];
            for (int fact = 0; fact < 4; fact++) {
                is[fact] = set >> fact & 1;
                Due.due("of how many ahead of fact " + fact, x.ends(0, 1), 16 >> fact);
                x.fact(0, fact, is[fact]);
            }
            boolean holds = is[0] == 1 && is[1] == 0 || is[2] == 1 && is[3] == 1;
            Due.due("the one set " + set, x.ends(0, 0), holds ? 1 : 0);
            Due.due("of one set " + set, x.ends(0, 1), 1);
            Due.due("no witness of " + set, x.ends(0, 2), -9);
        }
    }

    private static void promise23EachFactSo() {
        Due.says("ENDS: in how many of the sets that may be the RULE holds (part 0)");
        String[] told = {"1???", "0???", "?1??", "?0??", "??1?", "??0?", "???1", "???0", "11??", "1??0",
            "1111", "0000"};
        int[] ab = {4, 0, 4, 0, 2, 2, 2, 2, 4, 2, 1, 0};
        int[] of = {8, 8, 8, 8, 8, 8, 8, 8, 4, 4, 1, 1};
        for (int i = 0; i < told.length; i++) {
            RottenSeats x = petition("a=1&b=1");
            tell(x, told[i]);
            Due.due("ends of a=1&b=1 with " + told[i], x.ends(0, 0), ab[i]);
            Due.due("of how many with " + told[i], x.ends(0, 1), of[i]);
        }
    }

    /** A rule that holds in one set alone, of each of the sixteen. */
    private static void promise23EachSet() {
        Due.says("FACTS being a, b, c, d");
        for (int set = 0; set < 16; set++) {
            String rule = "a=" + (set & 1) + "&b=" + (set >> 1 & 1) + "&c=" + (set >> 2 & 1) + "&d=" + (set >> 3 & 1);
            RottenSeats x = petition(rule);
            Due.due("ends of " + rule, x.ends(0, 0), 1);
            Due.due("witness of " + rule, x.ends(0, 2), 0);
            for (int fact = 0; fact < 4; fact++) {
                x.fact(0, fact, set >> fact & 1);
                Due.due("ends of " + rule + " with " + fact, x.ends(0, 0), 1);
                x.fact(0, fact, 1 - (set >> fact & 1));
                Due.due("ends of " + rule + " without " + fact, x.ends(0, 0), 0);
                x.fact(0, fact, 2);
            }
        }
    }

    private static void promise23WitnessOfOne() {
        Due.says("of open facts the one for which DOUBT told so and DOUBT told not so together are least");
        for (int open = 0; open < 4; open++) {
            for (int so = 0; so < 2; so++) {
                RottenSeats x = petition("a=1|b=1|c=1|d=1");
                for (int fact = 0; fact < 4; fact++) {
                    x.fact(0, fact, fact == open ? 2 : so);
                }
                Due.due("the only open one with " + so, x.ends(0, 2), open);
            }
        }
    }

    private static void promise23NoWitness() {
        Due.says("of several the least; -9 none is open");
        for (String told : new String[] {"0000", "1111", "0101", "1110"}) {
            RottenSeats x = petition("a=1");
            tell(x, told);
            Due.due("witness with " + told, x.ends(0, 2), -9);
            x.fact(0, 3, 2);
            Due.due("witness with d open", x.ends(0, 2), 3);
        }
    }

    private static void promise23WitnessOfSeveral() {
        Due.says("together are least, DOUBT being the lesser of");
        String[] rules = {"1=1", "0=1", "a=1", "b=1", "c=1", "d=1", "b=c", "c=d", "a=d", "b=1&d=1", "c=1|d=1",
            "a=b&c=d", "d=1&(a=1|b=1)", "b=1&c=1|b=0&d=1"};
        int[] first = {0, 0, 0, 1, 2, 3, 0, 0, 0, 0, 0, 0, 3, 2};
        for (int i = 0; i < rules.length; i++) {
            Due.due("witness of " + rules[i], petition(rules[i]).ends(0, 2), first[i]);
        }
    }

    private static void promise23Doubt() {
        Due.says("the lesser of in how many of the sets that may be then the RULE holds and in how many it does not");
        // Doubts of those told so and not so: a 0 and 2, b and c 2 and 4, d 3 and 3
        RottenSeats x = petition("a=1|b=1&c=1");
        Due.due("a parts most", x.ends(0, 2), 0);
        x.fact(0, 0, 0);
        Due.due("b parts as much as c", x.ends(0, 2), 1);
        x.fact(0, 1, 1);
        Due.due("c is all that counts", x.ends(0, 2), 2);
        x.fact(0, 2, 1);
        Due.due("d counts nothing, but is open", x.ends(0, 2), 3);
        x.fact(0, 0, 2);
        Due.due("a of a, d, where all is sure", x.ends(0, 2), 0);
        // Most sets hold: the doubt is of those that do not.
        RottenSeats y = petition("!(d=1&c=1&b=1)");
        Due.due("a of four that part alike", y.ends(0, 2), 0);
        y.fact(0, 0, 1);
        Due.due("b of b, c, d", y.ends(0, 2), 1);
        y.fact(0, 1, 1);
        Due.due("c of c, d", y.ends(0, 2), 2);
        y.fact(0, 2, 0);
        Due.due("d, though all is sure", y.ends(0, 2), 3);
    }

    private static void promise23Refusals() {
        Due.says("ENDS: part 0, 1; WITNESS (2; -9). -1; -2.");
        Edge.among("ends of a petition", 0, 0, -1, (x, v) -> x.ends(v, 0));
        Edge.among("part of the ends", 0, 2, -2, (x, v) -> x.ends(0, v));
        Edge.refused("no petition ahead of part", -1, x -> x.ends(1, 3));
        Edge.refused("no petition ahead of part below", -1, x -> x.ends(-1, -1));
        Edge.refusedWhenFull("ends of one behind the last", -1, x -> x.ends(10, 0));
    }

    private static void promise24Knot() {
        Due.says("a KNOT (0 .. 7), a LEAN. ");
        Edge.among("knot of a member", 0, 7, -1, (x, v) -> x.member(v, 0));
        Due.says("A MEMBER: its number. -1 KNOT; -4; -6 (40, too).");
        Edge.refused("no knot ahead of below", -1, x -> x.member(8, -10));
        Edge.refused("no knot ahead of above", -1, x -> x.member(-1, 10));
    }

    private static void promise24Lean() {
        Due.says("the LEAN (-9 .. 9) that is worst for it");
        Edge.range("lean", -9, -4, 9, -6, (x, v) -> x.member(0, v));
    }

    private static void promise24Room() {
        Due.says("MEMBERS have numbers from 0 on (40 at most)");
        RottenSeats x = new RottenSeats();
        for (int i = 0; i < 40; i++) {
            Due.due("member no " + i, x.member(7, 0), i);
        }
        Due.due("one member more", x.member(7, 0), -6);
        Due.due("one more of another knot", x.member(0, 0), -6);
        Due.due("count(7)", x.count(7), 40);
        Edge.refusedWhenFull("one member more", -6, y -> y.member(0, 0));
        Edge.refusedWhenFull("one more, lean below", -4, y -> y.member(0, -10));
        Edge.refusedWhenFull("one more, no knot", -1, y -> y.member(8, -10));
    }

    private static void promise25Fewer() {
        Due.says("(Fewer than 11 MEMBERS: no LOT.)");
        RottenSeats x = new RottenSeats();
        for (int i = 0; i < 11; i++) {
            Due.due("lot of " + i, x.lot(0, i % 6), -3);
            x.member(0, 0);
        }
        Due.due("refusals", x.count(13), 11);
        Due.due("lot of 11", x.lot(0, 0), 6);
        x.member(0, 0);
        Due.due("lot of 12", x.lot(0, 5), 0);
        Due.due("refusals behind it", x.count(13), 11);
    }

    private static void promise25What() {
        Due.says("the i-th of the 5 left by numbers (what i 0 .. 4); 5 the side for which they decide");
        Edge.among("what of a lot", 0, 5, -2, (x, v) -> x.lot(0, v));
    }

    private static void promise25Seed() {
        Due.says("from a SEED (0 .. 9999)");
        for (int what = 0; what <= 5; what++) {
            int of = what;
            Edge.range("seed for part " + what, 0, -4, 9999, -6, (x, v) -> x.lot(v, of));
        }
    }

    private static void promise25Order() {
        Due.says("-2; -4; -6 SEED; -3 fewer than 11.");
        Edge.refused("what ahead of seed below", -2, x -> x.lot(-1, 6));
        Edge.refused("what ahead of seed above", -2, x -> x.lot(10000, -1));
        Edge.refusedWhenNew("what ahead of fewer", -2, x -> x.lot(0, 6));
        Edge.refusedWhenNew("seed below ahead of fewer", -4, x -> x.lot(-1, 0));
        Edge.refusedWhenNew("seed above ahead of fewer", -6, x -> x.lot(10000, 5));
        Edge.refusedWhenNew("fewer", -3, x -> x.lot(9999, 5));
    }

    /** Each lot by a row that closes up, the struck by looking through it. */
    private static int[] judges(int seed, int... leans) {
        List<Integer> row = new ArrayList<>();
        for (int i = 0; i < leans.length; i++) {
            row.add(i);
        }
        List<Integer> drawn = new ArrayList<>();
        int turn = seed;
        for (int i = 0; i < 11; i++) {
            turn = (turn * 61 + 17) % 9973;
            drawn.add(row.remove(turn % row.size()));
        }
        drawn.sort(null);
        for (int i = 0; i < 6; i++) {
            int worst = drawn.get(0);
            for (int m : drawn) {
                boolean isWorse = i % 2 == 0 ? leans[m] > leans[worst] : leans[m] < leans[worst];
                worst = isWorse ? m : worst;
            }
            drawn.remove((Integer) worst);
        }
        int sum = 0;
        int[] judges = new int[6];
        for (int i = 0; i < 5; i++) {
            judges[i] = drawn.get(i);
            sum += leans[judges[i]];
        }
        judges[5] = sum > 0 ? 1 : 0;
        return judges;
    }

    private static void lot(RottenSeats x, int seed, int... want) {
        for (int i = 0; i < want.length; i++) {
            Due.due("lot(" + seed + ", " + i + ") of " + x.count(7), x.lot(seed, i), want[i]);
        }
    }

    private static void promise25Modulo() {
        Due.says("11 times SEED is (SEED times 61 and 17) modulo 9973");
        int[] leans = new int[40];
        for (int i = 0; i < 40; i++) {
            leans[i] = i * 7 % 19 - 9;
        }
        RottenSeats x = World.leans(leans);
        for (int seed : new int[] {0, 1, 163, 164, 4986, 9972, 9973, 9974, 9998, 9999}) {
            lot(x, seed, judges(seed, leans));
        }
        Due.due("9973 draws as 0 does", Arrays.compare(judges(9973, leans), judges(0, leans)), 0);
        Due.due("9999 draws as 26 does", Arrays.compare(judges(9999, leans), judges(26, leans)), 0);
    }

    private static void promise25Drawn() {
        Due.says("the one at SEED modulo how many are left (of the row of MEMBERS that are left, in order) is taken");
        for (int many = 11; many <= 40; many++) {
            int[] leans = new int[many];
            lot(World.leans(leans), 9999, judges(9999, leans));
            for (int i = 0; i < many; i++) {
                leans[i] = i % 5 - 2;
            }
            lot(World.leans(leans), many, judges(many, leans));
        }
    }

    private static void promise25Turns() {
        Due.says("Then the sides strike, side 0 first, turn by turn, 3 each");
        // Side 0 strikes 9, 8, 7, side 1 strikes -9, -8, -7; 6 and -6 are left.
        lot(World.leans(9, 8, 7, 6, -6, -7, -8, -9, 0, 0, 0), 1, 3, 4, 8, 9, 10, 0);
        lot(World.leans(-9, -8, -7, -6, 6, 7, 8, 9, 0, 0, 1), 1, 3, 4, 8, 9, 10, 1);
        lot(World.leans(9, 9, 9, 9, 9, 9, 9, 9, 9, 9, 9), 1, 6, 7, 8, 9, 10, 1);
        lot(World.leans(-9, -9, -9, -9, -9, -9, -9, -9, -9, -9, -9), 1, 6, 7, 8, 9, 10, 0);
    }

    private static void promise25Several() {
        Due.says("(side 0: greatest; 1: least), of several the least number");
        lot(World.leans(3, 3, 3, 3, 0, -3, -3, -3, -3, 0, 0), 1, 3, 4, 8, 9, 10, 0);
        lot(World.leans(0, -3, -3, -3, -3, 0, 0, 3, 3, 3, 3), 1, 0, 4, 5, 6, 10, 0);
        lot(World.leans(0, 0, 0, 0, 0, 0, 0, 0, 9, 9, 9), 1, 3, 4, 5, 6, 7, 0);
        lot(World.leans(0, 0, 0, 0, 0, 0, 0, 0, 9, 9, -9), 1, 3, 4, 5, 6, 7, 0);
    }

    private static void promise25Verdict() {
        Due.says("the sum of LEANS: above 0: for side 1; else 0");
        int[][] five = {{0, 0, 0, 0, 0, 0}, {1, 0, 0, 0, 0, 1}, {0, 0, 0, 0, 1, 1}, {-1, 0, 0, 0, 0, 0},
            {0, 0, 0, 0, -1, 0}, {1, -1, 0, 0, 0, 0}, {2, -1, 0, 0, 0, 1}, {1, -2, 0, 0, 0, 0}, {8, 8, 8, 8, 8, 1},
            {-8, -8, -8, -8, -8, 0}, {-1, -1, -1, -1, 5, 1}, {-1, -1, -1, -1, 4, 0}};
        for (int[] of : five) {
            RottenSeats x = World.leans(9, 9, 9, -9, -9, -9, of[0], of[1], of[2], of[3], of[4]);
            Due.due("the side of " + Arrays.toString(of), x.lot(1, 5), of[5]);
            RottenSeats y = World.leans(of[0], of[1], of[2], of[3], of[4], 9, 9, 9, -9, -9, -9);
            Due.due("the side of the first, " + Arrays.toString(of), y.lot(1, 5), of[5]);
        }
    }
}
