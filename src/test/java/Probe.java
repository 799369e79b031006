import java.util.ArrayList;
import java.util.Arrays;
import java.util.List;

/**
 * What an object answers when it is asked all round: two objects that were told the same answer the
 * same. It asks last what it changes by asking, so an object that was probed is not used again.
 */
final class Probe {
    private interface Ask {
        int of(RottenSeats x);
    }

    private final List<Ask> asks = new ArrayList<>();

    private Probe() {
        counts();
        places();
        persons();
        petitions();
        bill();
        changes();
    }

    /** The answers to so many calls at most. */
    static int[] answers(RottenSeats x, int calls) {
        List<Ask> asks = new Probe().asks;
        int[] answers = new int[Math.min(calls, asks.size())];
        for (int i = 0; i < answers.length; i++) {
            answers[i] = asks.get(i).of(x);
        }
        return answers;
    }

    /** Whether both answer the same but for how often they refused. */
    static boolean isSame(RottenSeats x, RottenSeats y, int calls) {
        return Arrays.equals(answers(x, calls), answers(y, calls));
    }

    private void counts() {
        for (int what = 0; what <= 10; what++) {
            int of = what;
            asks.add(x -> x.count(of));
        }
        asks.add(x -> x.count(17));
    }

    private void places() {
        for (int place = 0; place < 4; place++) {
            int of = place;
            for (int part = 0; part < 4; part++) {
                int which = part;
                asks.add(x -> x.number(of, which % 2, 2000, 2000, which > 1));
                asks.add(x -> x.list(of, 500, 2000, which));
            }
            asks.add(x -> x.furrows(of, 500, 0));
            asks.add(x -> x.twice(of));
            asks.add(x -> x.worth(of, 1, 0));
            asks.add(x -> x.under(0, of, 500, 0));
            asks.add(x -> x.under(0, of, 500, 1));
            asks.add(x -> x.under(7, of, 500, 0));
            for (int part = 0; part < 6; part++) {
                int which = part;
                asks.add(x -> x.elect(0, of, 500, which));
            }
        }
    }

    private void persons() {
        for (int person = 0; person < 5; person++) {
            int of = person;
            for (int part = 0; part < 5; part++) {
                int which = part;
                asks.add(x -> x.may(of, 0, 500, which));
                asks.add(x -> x.may(of, 1, 480, which));
            }
        }
    }

    private void petitions() {
        for (int part = 0; part < 6; part++) {
            int which = part;
            asks.add(x -> x.ends(which / 3, which % 3));
            asks.add(x -> x.lot(77, which));
        }
    }

    private void bill() {
        for (int i = 0; i < 8; i++) {
            int of = i;
            asks.add(x -> x.stands(of));
            asks.add(x -> x.divide(of, 0, of % 2));
            asks.add(x -> x.divide(of, 4, 1 - of % 2));
        }
        for (int i = 0; i < 4; i++) {
            int of = i;
            asks.add(x -> x.falls(of));
            asks.add(x -> x.gain(of, 500, of % 3));
            asks.add(x -> x.carry(of, 0));
            asks.add(x -> x.nightOf(5, 9, of));
        }
    }

    private void changes() {
        asks.add(x -> x.weigh(0, 0));
        asks.add(x -> x.weigh(1, 0));
        for (int i = 0; i < 8; i++) {
            int of = i;
            asks.add(x -> x.bar(of, 0));
            asks.add(x -> x.read(of, 0));
            asks.add(x -> x.patron(of, 0));
            asks.add(x -> x.base(of, 0));
            asks.add(x -> x.fact(of / 4, of % 4, 0));
            asks.add(x -> x.end(of));
            asks.add(x -> x.gone(of));
            for (int line = 0; line < 9; line++) {
                int which = line;
                asks.add(x -> x.want(of, which, 0));
            }
        }
        asks.add(x -> x.check(0, 500));
        asks.add(x -> x.text(false));
        asks.add(x -> x.text(true));
    }
}
