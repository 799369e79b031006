/**
 * Promises 1 to 43 in runs of 512 calls that a row of numbers chooses, the same each time: every
 * answer is held against the other telling of the document in NaiveSeats.
 */
public final class RandomTest {
    private static final int RUNS = 1500;
    private static final int CALLS = 512;
    private static final int METHODS = 42;
    /** The most calls of one step: 22 times SEATS are asked and put, then the row is checked. */
    private static final int STEP = 45;

    private final RottenSeats x = new RottenSeats();
    private final NaiveSeats m = new NaiveSeats();
    private final int run;
    /** Runs of few knots have more of them there. */
    private final int knots;
    private long state;
    private int calls = 0;

    private RandomTest(int run) {
        this.run = run;
        this.state = run * 7919L + 12345;
        this.knots = 1 + pick(8);
    }

    public static void main(String[] args) {
        for (int run = 0; run < RUNS; run++) {
            new RandomTest(run).go();
        }
        Due.end();
    }

    private void go() {
        set();
        // Some runs ask much of few calls, so that what hangs together meets.
        int only = pick(3) == 0 ? pick(METHODS) : -1;
        while (calls < CALLS - 18 - STEP) {
            step(only >= 0 && pick(2) == 0 ? only : pick(METHODS));
        }
        for (int what = 0; what < 18; what++) {
            same("count(" + what + ")", x.count(what), m.count(what));
        }
    }

    private void set() {
        int[] first = {0, 1, 1, 13, 3, 8, 10, 40, 16, 14, 22, 24, 25, 29, 31, 32};
        int[] most = {20, 2, run % 3 == 0 ? 14 : 1, 10, 40, 24, 40, 12, 5, 5, 20, 20, 9, 30, 8, 16};
        for (int i = 0; i < first.length && calls < 350; i++) {
            int many = i == 1 || pick(4) == 0 ? most[i] : pick(most[i] + 1);
            for (int j = 0; j < many && calls < 400; j++) {
                step(first[i]);
                if (pick(12) == 0) {
                    step(0);
                }
            }
        }
    }

    private void same(String call, int got, int want) {
        calls++;
        if (got != want) {
            Due.fail("run " + run + ", call " + calls + ": " + call + " answered " + got + ", due is " + want);
        } else {
            Due.due(call, got, want);
        }
    }

    private int pick(int below) {
        state = state * 6364136223846793005L + 1442695040888963407L;
        return (int) ((state >>> 33) % Math.max(1, below));
    }

    /** Mostly least .. greatest; now and then the next one outside, or far outside. */
    private int near(int least, int greatest) {
        switch (pick(120)) {
            case 0:
                return least - 1;
            case 1:
                return greatest + 1;
            case 2:
                return pick(2) == 0 ? Integer.MIN_VALUE : Integer.MAX_VALUE;
            case 3:
                return least;
            case 4:
                return greatest;
            default:
                return least + pick(greatest - least + 1);
        }
    }

    private int told(int what) {
        return near(0, m.count(what) - 1);
    }

    private int day() {
        int now = m.count(0);
        switch (pick(6)) {
            case 0:
                return near(0, 2000);
            case 1:
                return Math.min(2000, now + pick(400));
            default:
                return Math.max(0, now - pick(1 + pick(1 + now)));
        }
    }

    private int since() {
        int now = m.count(0);
        return pick(5) == 0 ? near(-2000, now) : now - pick(1 + pick(500));
    }

    private int set(int lines) {
        return near(0, (1 << lines) - 1);
    }

    private String rule(String letters, int deep) {
        int kind = pick(deep > 0 ? 9 : 4);
        if (kind < 4) {
            String unit = pick(9) == 0 ? "" + pick(pick(2) == 0 ? 3 : 10000) : letter(letters);
            int great = letters.length() == 4 ? 3 : pick(4) == 0 ? 400 : 2;
            String other = pick(5) > 0 ? "" + pick(great) : letter(letters);
            return unit + "<=>>>>".charAt(pick(6)) + other;
        }
        if (kind < 6) {
            return "!" + (pick(2) == 0 ? rule(letters, 0) : "(" + rule(letters, deep - 1) + ")");
        }
        String part = kind == 6 ? "(" + rule(letters, deep - 1) + ")" : rule(letters, deep - 1);
        return part + "&|".charAt(pick(2)) + rule(letters, deep - 1);
    }

    private String letter(String letters) {
        return "" + letters.charAt(pick(letters.length()));
    }

    private void feedRule(boolean facts) {
        String rule = rule(facts ? "abcd" : "hpgdy", 3);
        if (pick(6) == 0 && !rule.isEmpty()) {
            int at = pick(rule.length());
            char other = "!(()&|<=>hpgdyabc0919 ".charAt(pick(22));
            rule = rule.substring(0, at) + other + rule.substring(at + pick(2));
        }
        for (int at = 0; at < Math.min(48, rule.length()); at += 8) {
            long bytes = 0;
            int n = Math.min(8, rule.length() - at);
            for (int i = 0; i < 8; i++) {
                // Above n stand bytes that must not come.
                int b = i < n ? rule.charAt(at + i) : pick(256);
                bytes |= (long) b << 8 * i;
            }
            same("feed " + rule, x.feed(n, bytes), m.feed(n, bytes));
        }
        same("text " + rule, x.text(facts), m.text(facts));
    }

    private void step(int method) {
        if (method < 21) {
            stepOfPlaces(method);
        } else {
            stepOfTheBill(method);
        }
    }

    private void stepOfPlaces(int method) {
        switch (method) {
            case 0 -> {
                int n = pick(10) == 0 ? near(1, 2000) : 1 + pick(30);
                same("days(" + n + ")", x.days(n), m.days(n));
            }
            case 1 -> {
                int seats = near(0, 2);
                int patron = near(-1, 5);
                same("place(" + seats + ", " + patron + ")", x.place(seats, patron), m.place(seats, patron));
            }
            case 2 -> {
                int what = near(0, 1);
                int v = pick(2) == 0 ? near(0, 99) : pick(3);
                same("weigh(" + what + ", " + v + ")", x.weigh(what, v), m.weigh(what, v));
            }
            case 3 -> {
                int place = told(1);
                int what = near(0, 1);
                int day = pick(9) == 0 ? day() : Math.max(0, m.count(0) - pick(5));
                int v = pick(3) == 0 ? near(0, 9999) : pick(40);
                int wrong = pick(3) == 0 ? near(0, 999) : pick(12);
                same("roll(" + place + ", " + what + ", " + day + ", " + v + ", " + wrong + ")",
                        x.roll(place, what, day, v, wrong), m.roll(place, what, day, v, wrong));
            }
            case 4 -> {
                int place = told(1);
                int what = near(0, 1);
                int j = day();
                int k = day();
                boolean wrong = pick(2) == 0;
                same("number(" + place + ", " + what + ", " + j + ", " + k + ", " + wrong + ")",
                        x.number(place, what, j, k, wrong), m.number(place, what, j, k, wrong));
            }
            case 5, 6 -> {
                int place = told(1);
                int j = day();
                int k = day();
                int what = near(0, 3);
                same("list(" + place + ", " + j + ", " + k + ", " + what + ")",
                        x.list(place, j, k, what), m.list(place, j, k, what));
            }
            case 7 -> {
                int rank = told(1);
                int j = day();
                int k = day();
                same("ranked(" + rank + ", " + j + ", " + k + ")", x.ranked(rank, j, k), m.ranked(rank, j, k));
            }
            case 8 -> {
                int place = told(1);
                int since = since();
                int wish = near(0, 3);
                int debt = near(-1, 5);
                same("person(" + place + ", " + since + ", " + wish + ", " + debt + ")",
                        x.person(place, since, wish, debt), m.person(place, since, wish, debt));
            }
            case 9 -> {
                int person = pick(4) == 0 ? told(3) : pick(60);
                same("gone(" + person + ")", x.gone(person), m.gone(person));
            }
            case 10, 11 -> {
                int person = told(3);
                int place = told(1);
                int kind = near(0, 2);
                int v = kind == 0 ? pick(5) - 2 : kind == 1 ? near(1, 99) : near(1, 3);
                int since = since();
                same("right(" + person + ", " + place + ", " + kind + ", " + v + ", " + since + ")",
                        x.right(person, place, kind, v, since), m.right(person, place, kind, v, since));
            }
            case 12 -> {
                int right = pick(4) == 0 ? told(4) : pick(120);
                same("end(" + right + ")", x.end(right), m.end(right));
            }
            case 13 -> feedRule(false);
            case 14 -> feedRule(true);
            case 15 -> {
                int n = near(1, 8);
                long bytes = (long) pick(1 << 30) << 32 | pick(1 << 30);
                same("feed(" + n + ", " + bytes + ")", x.feed(n, bytes), m.feed(n, bytes));
            }
            case 16 -> {
                int place = told(1);
                int text = told(5);
                int day = day();
                same("old(" + place + ", " + text + ", " + day + ")", x.old(place, text, day), m.old(place, text, day));
            }
            case 17, 18 -> {
                int person = told(3);
                int place = told(1);
                int day = day();
                int what = near(0, 4);
                same("may(" + person + ", " + place + ", " + day + ", " + what + ")",
                        x.may(person, place, day, what), m.may(person, place, day, what));
            }
            case 19 -> {
                int place = told(1);
                int day = day();
                int what = near(0, 1);
                same("furrows(" + place + ", " + day + ", " + what + ")",
                        x.furrows(place, day, what), m.furrows(place, day, what));
            }
            default -> {
                int place = told(1);
                int years = near(1, 7);
                int standing = near(0, 100);
                same("worth(" + place + ", " + years + ", " + standing + ")",
                        x.worth(place, years, standing), m.worth(place, years, standing));
            }
        }
    }

    private void stepOfTheBill(int method) {
        int lines = m.count(8);
        switch (method) {
            case 21 -> {
                int place = told(1);
                int v = near(0, 999);
                same("base(" + place + ", " + v + ")", x.base(place, v), m.base(place, v));
            }
            case 22 -> {
                int place = told(1);
                int from = near(0, 9999) / (1 + pick(500));
                int to = pick(5) == 0 ? near(0, 9999) : from + pick(8);
                int price = near(0, 9999);
                same("sell(" + place + ", " + from + ", " + to + ", " + price + ")",
                        x.sell(place, from, to, price), m.sell(place, from, to, price));
                same("twice(" + place + ")", x.twice(place), m.twice(place));
            }
            case 23 -> {
                int petition = told(6);
                int which = near(0, 3);
                int what = near(0, 2);
                same("fact(" + petition + ", " + which + ", " + what + ")",
                        x.fact(petition, which, what), m.fact(petition, which, what));
                int part = near(0, 2);
                same("ends(" + petition + ", " + part + ")", x.ends(petition, part), m.ends(petition, part));
            }
            case 24 -> {
                int knot = near(0, knots - 1);
                int lean = near(-9, 9);
                same("member(" + knot + ", " + lean + ")", x.member(knot, lean), m.member(knot, lean));
            }
            case 25 -> {
                int kind = near(0, 2);
                int n = near(1, 2);
                int limit = kind == 2 ? told(5) : pick(6) == 0 ? near(0, 9999) : pick(20);
                int hangs = set(lines) & (pick(20) == 0 ? -1 : pick(512));
                same("line(" + kind + ", " + n + ", " + limit + ", " + hangs + ")",
                        x.line(kind, n, limit, hangs), m.line(kind, n, limit, hangs));
            }
            case 26 -> {
                int set = set(lines);
                same("stands(" + set + ")", x.stands(set), m.stands(set));
                int line = told(8);
                same("falls(" + line + ")", x.falls(line), m.falls(line));
            }
            case 27 -> {
                int set = set(lines);
                int place = told(1);
                int day = day();
                int what = near(0, 1);
                same("under(" + set + ", " + place + ", " + day + ", " + what + ")",
                        x.under(set, place, day, what), m.under(set, place, day, what));
            }
            case 28 -> {
                int line = told(8);
                int day = day();
                int what = near(0, 2);
                same("gain(" + line + ", " + day + ", " + what + ")", x.gain(line, day, what), m.gain(line, day, what));
            }
            case 29 -> {
                int knot = near(0, knots - 1);
                int line = near(0, 8);
                int v = near(-9, 9);
                same("want(" + knot + ", " + line + ", " + v + ")", x.want(knot, line, v), m.want(knot, line, v));
            }
            case 30 -> {
                int knot = near(0, knots - 1);
                int v = pick(3) == 0 ? near(-99, 99) : pick(15) - 9;
                same("bar(" + knot + ", " + v + ")", x.bar(knot, v), m.bar(knot, v));
            }
            case 31 -> {
                int knot = near(0, knots - 1);
                int set = pick(2) == 0 ? near(0, 511) : pick(512) | pick(512) | pick(512);
                same("read(" + knot + ", " + set + ")", x.read(knot, set), m.read(knot, set));
            }
            case 32 -> {
                int knot = near(0, knots - 1);
                int night = near(0, 4);
                int least = pick(3) == 0 ? near(0, 40) : pick(9);
                int most = pick(5) == 0 ? near(0, 40) : least + pick(4);
                same("there(" + knot + ", " + night + ", " + least + ", " + most + ")",
                        x.there(knot, night, least, most), m.there(knot, night, least, most));
            }
            case 33 -> {
                int set = set(lines);
                int night = near(0, 4);
                int what = near(0, 1);
                same("divide(" + set + ", " + night + ", " + what + ")",
                        x.divide(set, night, what), m.divide(set, night, what));
            }
            case 34 -> {
                int night = near(0, 4);
                int what = pick(2) == 0 ? 0 : near(0, 8);
                same("carry(" + night + ", " + what + ")", x.carry(night, what), m.carry(night, what));
            }
            default -> stepOfNights(method);
        }
    }

    private void stepOfNights(int method) {
        int lines = m.count(8);
        switch (method) {
            case 35 -> {
                int n = near(1, 5);
                int c = pick(2) == 0 ? near(1, 9) : 1 + pick(3);
                same("nights(" + n + ", " + c + ")", x.nights(n, c), m.nights(n, c));
                for (int line = 0; line < lines && pick(2) == 0; line++) {
                    same("nightOf(" + n + ", " + c + ", " + line + ")", x.nightOf(n, c, line), m.nightOf(n, c, line));
                }
            }
            case 36 -> {
                int n = near(1, 5);
                int c = near(1, 9);
                int line = told(8);
                same("nightOf(" + n + ", " + c + ", " + line + ")", x.nightOf(n, c, line), m.nightOf(n, c, line));
            }
            case 37 -> {
                int patron = near(0, 5);
                int side = near(0, 3);
                same("patron(" + patron + ", " + side + ")", x.patron(patron, side), m.patron(patron, side));
            }
            case 38 -> {
                int set = set(lines);
                int place = told(1);
                int day = day();
                int what = near(0, 5);
                same("elect(" + set + ", " + place + ", " + day + ", " + what + ")",
                        x.elect(set, place, day, what), m.elect(set, place, day, what));
            }
            case 39 -> {
                int set = set(lines);
                int day = day();
                int many = pick(3) == 0 ? pick(22) : Math.min(21, m.count(1) + pick(3) - 1);
                for (int i = m.count(17); i < many; i++) {
                    int v = x.under(set, i, day, 0);
                    same("under(" + set + ", " + i + ", " + day + ", 0)", v, m.under(set, i, day, 0));
                    v = pick(20) == 0 ? near(0, 9) : v;
                    same("put(" + v + ")", x.put(v), m.put(v));
                }
                same("check(" + set + ", " + day + ")", x.check(set, day), m.check(set, day));
            }
            case 40 -> {
                int place = told(1);
                int text = told(5);
                int day = pick(3) * 10;
                same("old(" + place + ", " + text + ", " + day + ")", x.old(place, text, day), m.old(place, text, day));
            }
            default -> {
                int seed = near(0, 9999);
                int what = near(0, 5);
                same("lot(" + seed + ", " + what + ")", x.lot(seed, what), m.lot(seed, what));
            }
        }
    }
}
