/**
 * An object is used for 512 calls: the last of them answers as well as the first, whatever calls
 * there were ahead of it.
 */
public final class LastCallTest {
    private static final int CALLS = 512;

    public static void main(String[] args) {
        Due.says("An object is used for at most 512 calls after it has been made");
        refusals();
        faults();
        nights();
        rows();
        sameTold();
        Due.end();
    }

    private static void refusals() {
        RottenSeats x = new RottenSeats();
        for (int i = 1; i < CALLS; i++) {
            Due.due("call " + i, x.days(0), -4);
        }
        Due.due("count(14), the last call", x.count(14), CALLS - 1);
    }

    private static void faults() {
        RottenSeats x = new RottenSeats();
        for (int i = 1; i < CALLS - 2; i += 2) {
            Due.due("call " + i, x.feed(1, '('), 1);
            Due.due("call " + (i + 1), x.text(i % 4 == 1), -21);
        }
        Due.due("the last call but one", x.feed(3, World.rule("1=1")), 3);
        Due.due("text(false), the last call", x.text(false), 0);
    }

    private static void nights() {
        RottenSeats x = new RottenSeats();
        x.member(0, 0);
        x.there(0, 0, 1, 1);
        x.read(0, 511);
        for (int line = 0; line < 9; line++) {
            x.line(0, 1, 0, 0);
            x.want(0, line, 1);
        }
        for (int i = 22; i < CALLS; i++) {
            Due.due("call " + i, x.nights(1, 1 + i % 9), 1 + i % 9);
        }
        Due.due("nightOf(1, 8, 8), the last call", x.nightOf(1, 8, 8), -9);
    }

    private static void rows() {
        RottenSeats x = new RottenSeats();
        x.place(2, -1);
        for (int i = 1; i < CALLS - 3; i += 2) {
            Due.due("call " + (i + 1), x.put(i % 3), 1);
            Due.due("call " + (i + 2), x.check(0, 0), i % 3 == 2 ? -9 : 0);
        }
        Due.due("count(17)", x.count(17), 0);
        Due.due("put(2), the last call but one", x.put(2), 1);
        Due.due("check(0, 0), the last call", x.check(0, 0), -9);
    }

    private static void sameTold() {
        RottenSeats x = new RottenSeats();
        for (int i = 0; i < CALLS - 1; i++) {
            Due.due("call " + (i + 1), x.bar(3, i % 199 - 99), i == 0 ? 0 : (i - 1) % 199 - 99);
        }
        Due.due("bar(3, 0), the last call", x.bar(3, 0), (CALLS - 2) % 199 - 99);
    }
}
