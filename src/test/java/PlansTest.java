/**
 * Promises 36 to 38 on whole bills: each of five knots is there on a night of its own, so that any
 * line may be wanted on any night; the answers are held against every plan that NaiveSeats tries.
 */
public final class PlansTest {
    private static final int BILLS = 2500;

    private final RottenSeats x = new RottenSeats();
    private final NaiveSeats m = new NaiveSeats();
    private final int bill;
    private long state;

    private PlansTest(int bill) {
        this.bill = bill;
        this.state = bill * 104729L + 7;
    }

    public static void main(String[] args) {
        for (int bill = 0; bill < BILLS; bill++) {
            PlansTest test = new PlansTest(bill);
            test.tell();
            test.plans();
            test.carries();
        }
        Due.end();
    }

    private int pick(int below) {
        state = state * 6364136223846793005L + 1442695040888963407L;
        return (int) ((state >>> 33) % below);
    }

    private void same(String call, int got, int want) {
        Due.due("bill " + bill + ": " + call, got, want);
    }

    private void tell() {
        int lines = 6 + pick(4);
        int hung = 1 + pick(5);
        for (int line = 0; line < lines; line++) {
            int hangs = 0;
            for (int other = 0; other < line; other++) {
                hangs |= pick(3 * hung) == 0 ? 1 << other : 0;
            }
            same("line", x.line(0, 1, 0, hangs), m.line(0, 1, 0, hangs));
        }
        int rare = 1 + pick(3);
        for (int knot = 0; knot < 5; knot++) {
            same("member", x.member(knot, 0), m.member(knot, 0));
            same("there", x.there(knot, knot, 1, 1), m.there(knot, knot, 1, 1));
            int read = pick(4) == 0 ? pick(512) : 511;
            same("read", x.read(knot, read), m.read(knot, read));
            int bar = pick(9) - 6;
            same("bar", x.bar(knot, bar), m.bar(knot, bar));
            for (int line = 0; line < lines; line++) {
                int want = pick(1 + rare) > 0 ? -pick(5) : 1 + pick(5);
                same("want", x.want(knot, line, want), m.want(knot, line, want));
            }
        }
    }

    private void plans() {
        for (int n = 1; n <= 5; n++) {
            int c = pick(2) == 0 ? 1 : 1 + pick(9);
            same("nights(" + n + ", " + c + ")", x.nights(n, c), m.nights(n, c));
            for (int line = 0; line < x.count(8); line++) {
                same("nightOf(" + n + ", " + c + ", " + line + ")", x.nightOf(n, c, line), m.nightOf(n, c, line));
            }
        }
    }

    private void carries() {
        for (int night = 0; night < 5; night++) {
            for (int what = 0; what <= 5; what++) {
                same("carry(" + night + ", " + what + ")", x.carry(night, what), m.carry(night, what));
            }
        }
    }
}
