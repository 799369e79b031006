import java.util.ArrayList;
import java.util.Arrays;
import java.util.List;

/**
 * The document once more, in another way: lists of what was told, texts kept as they were fed, and
 * every plan of nights tried. RandomTest holds its answers against the program's.
 */
final class NaiveSeats {
    record Place(int seats, int patron) { }

    record Roll(int place, int what, int day, int told, int v, int wrong) { }

    record Person(int place, int since, int wish, int debt) { }

    record Right(int person, int place, int kind, int v, int since) { }

    record Old(int place, int text, int day) { }

    record Sale(int place, int from, int to) { }

    record Member(int knot, int lean) { }

    record Line(int kind, int n, int x, int hangs) { }

    private final int[] refused = new int[7];
    private int now = 0;
    private final List<Place> places = new ArrayList<>();
    private final List<Roll> rolls = new ArrayList<>();
    private final int[] weights = {1, 1};
    private final List<Person> persons = new ArrayList<>();
    private final List<Integer> gone = new ArrayList<>();
    private final List<Right> rights = new ArrayList<>();
    private final int[] ends = new int[80];
    private String tape = "";
    private final List<String> texts = new ArrayList<>();
    private final List<String> petitions = new ArrayList<>();
    private final int[][] told = new int[10][4];
    private final List<Old> olds = new ArrayList<>();
    private final List<Sale> sales = new ArrayList<>();
    private final int[] bases = new int[16];
    private final List<Member> members = new ArrayList<>();
    private final List<Line> lines = new ArrayList<>();
    private final int[][] wants = new int[8][9];
    private final int[] bars = new int[8];
    private final int[] reads = new int[8];
    private final int[][][] theres = new int[8][5][2];
    private final int[] sides = {0, 1, 2, 3, 0, 1};
    private final List<Integer> row = new ArrayList<>();

    NaiveSeats() {
        Arrays.fill(ends, -1);
        Arrays.fill(bases, 100);
        for (int[] of : told) {
            Arrays.fill(of, 2);
        }
    }

    /** The first of the refusals that fits: pairs of a number and 1 if it fits; 0 if none does. */
    private int first(Object... pairs) {
        for (int i = 0; i < pairs.length; i += 2) {
            if ((Boolean) pairs[i + 1]) {
                int number = (Integer) pairs[i];
                refused[-number]++;
                return number;
            }
        }
        return 0;
    }

    private static int apart(int refusal) {
        return 1000000000 - refusal;
    }

    private static boolean out(int v, List<?> of) {
        return v < 0 || v >= of.size();
    }

    private static boolean out(int v, int least, int greatest) {
        return v < least || v > greatest;
    }

    private boolean others(int set) {
        return set < 0 || set >= 1 << lines.size();
    }

    int days(int n) {
        int no = first(-4, n <= 0, -6, (long) n + now > 2000);
        return no != 0 ? no : (now += n);
    }

    int place(int seats, int patron) {
        int no = first(-1, out(patron, -1, 5), -4, seats < 0, -6, seats > 2 || places.size() == 16);
        if (no != 0) {
            return no;
        }
        places.add(new Place(seats, patron));
        return places.size() - 1;
    }

    int roll(int place, int what, int day, int v, int wrong) {
        int no = first(-1, out(place, places), -2, out(what, 0, 1), -4, Math.min(day, Math.min(v, wrong)) < 0,
                -6, day > now || v > 9999 || wrong > 999 || rolls.size() == 120);
        if (no != 0) {
            return no;
        }
        rolls.add(new Roll(place, what, day, now, v, wrong));
        return rolls.size();
    }

    private Roll latest(int place, int what, int j, int k) {
        return rolls.stream().filter(r -> r.place == place && r.what == what && r.day <= j && r.told <= k)
                .reduce((a, b) -> b.day < a.day ? a : b).orElse(new Roll(place, what, 0, 0, 0, 0));
    }

    private static boolean late(int... days) {
        return Arrays.stream(days).anyMatch(d -> d > 2000);
    }

    private static boolean early(int... days) {
        return Arrays.stream(days).anyMatch(d -> d < 0);
    }

    int number(int place, int what, int j, int k, boolean wrong) {
        int no = first(-1, out(place, places), -2, out(what, 0, 1), -4, early(j, k), -6, late(j, k));
        if (no != 0) {
            return no;
        }
        Roll r = latest(place, what, j, k);
        return wrong ? r.wrong : r.v;
    }

    int weigh(int what, int v) {
        int no = first(-2, out(what, 0, 1), -4, v < 0, -6, v > 99);
        if (no != 0) {
            return no;
        }
        int was = weights[what];
        weights[what] = v;
        return was;
    }

    /** Wrong by 0, by as much less as may be (-1), by as much more (1). */
    private int score(int place, int j, int k, int wrong) {
        int sum = 0;
        for (int what = 0; what < 2; what++) {
            Roll r = latest(place, what, j, k);
            sum += weights[what] * Math.max(0, r.v + wrong * r.wrong);
        }
        return sum;
    }

    /** The places in the order of the list. */
    private List<Integer> listed(int j, int k) {
        int[] scores = new int[places.size()];
        List<Integer> order = new ArrayList<>();
        for (int i = 0; i < scores.length; i++) {
            scores[i] = score(i, j, k, 0);
            order.add(i);
        }
        order.sort((a, b) -> scores[a] != scores[b] ? Integer.compare(scores[a], scores[b]) : Integer.compare(a, b));
        return order;
    }

    int list(int place, int j, int k, int what) {
        int no = first(-1, out(place, places), -2, out(what, 0, 3), -4, early(j, k), -6, late(j, k));
        if (no != 0) {
            return no;
        }
        int surely = 0;
        int perhaps = 0;
        for (int i = 0; i < places.size(); i++) {
            if (i != place) {
                surely += score(i, j, k, 1) < score(place, j, k, -1) ? 1 : 0;
                perhaps += score(i, j, k, -1) <= score(place, j, k, 1) ? 1 : 0;
            }
        }
        return new int[] {score(place, j, k, 0), listed(j, k).indexOf(place), surely, perhaps}[what];
    }

    int ranked(int rank, int j, int k) {
        int no = first(-4, early(j, k), -6, late(j, k));
        return no != 0 ? no : out(rank, places) ? -9 : listed(j, k).get(rank);
    }

    int person(int place, int since, int wish, int debt) {
        int no = first(-1, out(place, places) || out(debt, -1, 5), -2, out(wish, 0, 3), -4, since < -2000,
                -6, since > now || persons.size() == 40);
        if (no != 0) {
            return no;
        }
        persons.add(new Person(place, since, wish, debt));
        return persons.size() - 1;
    }

    int gone(int person) {
        int no = first(-1, out(person, persons), -3, gone.contains(person));
        if (no != 0) {
            return no;
        }
        gone.add(person);
        return 1;
    }

    int right(int person, int place, int kind, int v, int since) {
        int greatest = kind == 1 ? 99 : kind == 2 ? 3 : Integer.MAX_VALUE;
        int least = kind == 0 ? Integer.MIN_VALUE : 1;
        int no = first(-1, out(person, persons) || out(place, places), -2, out(kind, 0, 2),
                -4, v < least || since < -2000, -6, v > greatest || since > now || rights.size() == 80);
        if (no != 0) {
            return no;
        }
        rights.add(new Right(person, place, kind, v, since));
        return rights.size() - 1;
    }

    int end(int right) {
        int no = first(-1, out(right, rights), -3, !out(right, rights) && ends[right] >= 0);
        if (no != 0) {
            return no;
        }
        ends[right] = now;
        return 1;
    }

    int feed(int n, long bytes) {
        int no = first(-4, n < 1, -6, n > 8 || tape.length() + n > 40);
        if (no != 0) {
            return no;
        }
        for (int i = 0; i < n; i++) {
            tape += (char) (bytes >>> 8 * i & 0xff);
        }
        return tape.length();
    }

    int text(boolean facts) {
        List<String> to = facts ? petitions : texts;
        int no = first(-6, to.size() == (facts ? 10 : 20));
        if (no != 0) {
            return no;
        }
        String rule = tape;
        tape = "";
        int fault = fault(rule, facts ? "abcd" : "hpgdy");
        if (fault >= 0) {
            return -20 - fault;
        }
        to.add(rule);
        return to.size() - 1;
    }

    /**
     * A reader of one byte at a time, with a pile of the signs that are open: p where a part may
     * begin, 1 .. 4 digits of the left unit, f behind a left fact, r behind the sign, s .. v
     * digits of the right unit, e behind a part.
     */
    private static int fault(String rule, String letters) {
        String pile = "";
        char state = 'p';
        for (int at = 0; at < rule.length(); at++) {
            char c = rule.charAt(at);
            boolean digit = "0123456789".indexOf(c) >= 0;
            boolean letter = letters.indexOf(c) >= 0;
            boolean behindPart = "estuv".indexOf(state) >= 0;
            if (state == 'p' && (c == '!' || c == '(') && pile.length() < 4) {
                pile += c;
            } else if (state == 'p' && (digit || letter)) {
                state = digit ? '1' : 'f';
            } else if (state >= '1' && state <= '3' && digit) {
                state++;
            } else if (("1234f".indexOf(state) >= 0) && "<=>".indexOf(c) >= 0) {
                state = 'r';
            } else if (state == 'r' && (digit || letter)) {
                state = digit ? 's' : 'e';
            } else if (state >= 's' && state <= 'u' && digit) {
                state++;
            } else if (behindPart && (c == '&' || c == '|')) {
                pile = closed(pile);
                state = 'p';
            } else if (behindPart && c == ')' && closed(pile).endsWith("(")) {
                pile = closed(pile);
                pile = pile.substring(0, pile.length() - 1);
                state = 'e';
            } else {
                return at;
            }
        }
        boolean whole = "estuv".indexOf(state) >= 0 && closed(pile).isEmpty();
        return whole ? -1 : rule.length();
    }

    /** Behind a part the "!" ahead of it are done. */
    private static String closed(String pile) {
        String rest = pile;
        while (rest.endsWith("!")) {
            rest = rest.substring(0, rest.length() - 1);
        }
        return rest;
    }

    /** A whole rule, cut at its outermost signs. */
    private static boolean holds(String rule, String letters, int... facts) {
        for (char sign : new char[] {'|', '&'}) {
            int depth = 0;
            for (int at = 0; at < rule.length(); at++) {
                char c = rule.charAt(at);
                depth += c == '(' ? 1 : c == ')' ? -1 : 0;
                if (c == sign && depth == 0) {
                    boolean left = holds(rule.substring(0, at), letters, facts);
                    boolean right = holds(rule.substring(at + 1), letters, facts);
                    return sign == '|' ? left || right : left && right;
                }
            }
        }
        if (rule.charAt(0) == '!') {
            return !holds(rule.substring(1), letters, facts);
        }
        if (rule.charAt(0) == '(') {
            return holds(rule.substring(1, rule.length() - 1), letters, facts);
        }
        String[] units = rule.split("[<=>]");
        int[] v = new int[2];
        for (int i = 0; i < 2; i++) {
            int fact = letters.indexOf(units[i].charAt(0));
            v[i] = fact >= 0 ? facts[fact] : Integer.parseInt(units[i]);
        }
        return rule.contains("<") ? v[0] < v[1] : rule.contains(">") ? v[0] > v[1] : v[0] == v[1];
    }

    int old(int place, int text, int day) {
        int no = first(-1, out(place, places) || out(text, texts), -4, day < 0, -6, day > 2000 || olds.size() == 40);
        if (no != 0) {
            return no;
        }
        olds.add(new Old(place, text, day));
        return olds.size();
    }

    private int oldOn(int place, int day) {
        return olds.stream().filter(o -> o.place == place && o.day <= day)
                .reduce((a, b) -> b.day < a.day ? a : b).map(o -> o.text).orElse(-9);
    }

    private int[] facts(int person, int place, int day) {
        int h = 0;
        int p = 0;
        int g = 4;
        boolean[] kinds = new boolean[3];
        for (int i = 0; i < rights.size(); i++) {
            Right r = rights.get(i);
            boolean ended = ends[i] >= 0 && ends[i] <= day;
            if (r.person == person && r.place == place && r.since <= day && !ended) {
                kinds[r.kind] = true;
                h = r.kind == 0 ? Math.max(h, day + 1 - r.since) : h;
                p += r.kind == 1 ? r.v : 0;
                g = r.kind == 2 ? Math.min(g, r.v) : g;
            }
        }
        Person one = persons.get(person);
        int d = one.place == place ? Math.max(0, day + 1 - one.since) : 0;
        return new int[] {h, p, g % 4, d, kinds[0] && kinds[1] && kinds[2] ? 1 : 0};
    }

    private boolean votes(int person, int place, int text, int day) {
        return text >= 0 && !gone.contains(person) && holds(texts.get(text), "hpgdy", facts(person, place, day));
    }

    int may(int person, int place, int day, int what) {
        int no = first(-1, out(person, persons) || out(place, places), -2, out(what, 0, 4), -4, day < 0,
                -6, day > 2000);
        if (no != 0) {
            return no;
        }
        return what > 0 ? facts(person, place, day)[what - 1] : votes(person, place, oldOn(place, day), day) ? 1 : 0;
    }

    int furrows(int place, int day, int what) {
        int no = first(-1, out(place, places), -2, out(what, 0, 1), -4, day < 0, -6, day > 2000);
        if (no != 0) {
            return no;
        }
        List<Integer> found = new ArrayList<>();
        int text = oldOn(place, day);
        for (int i = 0; i < persons.size(); i++) {
            if (votes(i, place, text, day) && !votes(i, place, text, day - 365)) {
                found.add(i);
            }
        }
        return what == 0 ? found.size() : found.isEmpty() ? -9 : found.get(0);
    }

    int sell(int place, int from, int to, int price) {
        int no = first(-1, out(place, places), -4, from < 0 || to < from || price < 0,
                -6, from > 9999 || to > 9999 || price > 9999 || sales.size() == 30);
        if (no != 0) {
            return no;
        }
        sales.add(new Sale(place, from, to));
        return sales.size() - 1;
    }

    int twice(int place) {
        int no = first(-1, out(place, places));
        if (no != 0) {
            return no;
        }
        int[] onDay = new int[10000];
        for (int i = 0; i < sales.size(); i++) {
            Sale s = sales.get(i);
            if (s.place == place) {
                for (int day = s.from; day <= s.to; day++) {
                    if (onDay[day]++ >= places.get(place).seats) {
                        return i;
                    }
                }
            }
        }
        return -9;
    }

    int base(int place, int v) {
        int no = first(-1, out(place, places), -4, v < 0, -6, v > 999);
        if (no != 0) {
            return no;
        }
        int was = bases[place];
        bases[place] = v;
        return was;
    }

    int worth(int place, int years, int standing) {
        int no = first(-1, out(place, places), -4, years < 1 || standing < 0, -6, years > 7 || standing > 100);
        if (no != 0) {
            return no;
        }
        int worth = bases[place] * years * (100 - standing) / 100;
        int part = worth / 20;
        for (int i = 0; i < persons.size(); i++) {
            worth -= votes(i, place, oldOn(place, now), now) ? part : 0;
        }
        return Math.max(worth, 0);
    }

    int fact(int petition, int which, int what) {
        int no = first(-1, out(petition, petitions), -2, out(which, 0, 3) || out(what, 0, 2));
        if (no != 0) {
            return no;
        }
        int was = told[petition][which];
        told[petition][which] = what;
        return was;
    }

    /** In how many of the sets that may be the rule holds, and does not. */
    private int[] tally(int petition, int[] as) {
        int[] tally = new int[2];
        for (int a = 0; a < 2; a++) {
            for (int b = 0; b < 2; b++) {
                for (int c = 0; c < 2; c++) {
                    for (int d = 0; d < 2; d++) {
                        int[] facts = {a, b, c, d};
                        boolean may = true;
                        for (int i = 0; i < 4; i++) {
                            may &= as[i] == 2 || as[i] == facts[i];
                        }
                        if (may) {
                            tally[holds(petitions.get(petition), "abcd", facts) ? 0 : 1]++;
                        }
                    }
                }
            }
        }
        return tally;
    }

    int ends(int petition, int what) {
        int no = first(-1, out(petition, petitions), -2, out(what, 0, 2));
        if (no != 0) {
            return no;
        }
        int[] tally = tally(petition, told[petition]);
        if (what < 2) {
            return what == 0 ? tally[0] : tally[0] + tally[1];
        }
        int best = -9;
        int least = 99;
        for (int i = 0; i < 4; i++) {
            if (told[petition][i] == 2) {
                int doubts = 0;
                for (int so = 0; so < 2; so++) {
                    int[] as = told[petition].clone();
                    as[i] = so;
                    int[] then = tally(petition, as);
                    doubts += Math.min(then[0], then[1]);
                }
                best = doubts < least ? i : best;
                least = Math.min(least, doubts);
            }
        }
        return best;
    }

    int member(int knot, int lean) {
        int no = first(-1, out(knot, 0, 7), -4, lean < -9, -6, lean > 9 || members.size() == 40);
        if (no != 0) {
            return no;
        }
        members.add(new Member(knot, lean));
        return members.size() - 1;
    }

    int lot(int seed, int what) {
        int no = first(-2, out(what, 0, 5), -4, seed < 0, -6, seed > 9999, -3, members.size() < 11);
        if (no != 0) {
            return no;
        }
        List<Integer> left = new ArrayList<>();
        for (int i = 0; i < members.size(); i++) {
            left.add(i);
        }
        List<Integer> taken = new ArrayList<>();
        int turn = seed;
        for (int i = 0; i < 11; i++) {
            turn = (turn * 61 + 17) % 9973;
            taken.add(left.remove(turn % left.size()));
        }
        taken.sort(null);
        for (int i = 0; i < 6; i++) {
            int sign = i % 2 == 0 ? 1 : -1;
            int worst = taken.stream().mapToInt(m -> sign * members.get(m).lean).max().getAsInt();
            int who = taken.stream().filter(m -> sign * members.get(m).lean == worst).findFirst().get();
            taken.remove((Integer) who);
        }
        int sum = taken.stream().mapToInt(m -> members.get(m).lean).sum();
        return what < 5 ? taken.get(what) : sum > 0 ? 1 : 0;
    }

    int line(int kind, int n, int x, int hangs) {
        int no = first(-2, out(kind, 0, 2), -4, n < 1 || x < 0 || hangs < 0,
                -6, n > 2 || x > 9999 || lines.size() == 9, -1, kind == 2 && out(x, texts), -3, others(hangs));
        if (no != 0) {
            return no;
        }
        lines.add(new Line(kind, n, x, hangs));
        return lines.size() - 1;
    }

    private boolean stands(int set, int line) {
        if ((set & 1 << line) == 0) {
            return false;
        }
        for (int i = 0; i < line; i++) {
            if ((lines.get(line).hangs & 1 << i) != 0 && !stands(set, i)) {
                return false;
            }
        }
        return true;
    }

    private int standing(int set) {
        int sum = 0;
        for (int i = 0; i < lines.size(); i++) {
            sum += stands(set, i) ? 1 << i : 0;
        }
        return sum;
    }

    private int all() {
        return (1 << lines.size()) - 1;
    }

    int stands(int set) {
        return others(set) ? -9 : standing(set);
    }

    int falls(int line) {
        int no = first(-1, out(line, lines));
        return no != 0 ? no : all() - standing(all() - (1 << line));
    }

    /** Seats and text of a place under a set. */
    private int[] under(int set, int place, int day) {
        int seats = places.get(place).seats;
        int text = oldOn(place, day);
        int rank = listed(day, now).indexOf(place);
        int houses = latest(place, 0, day, now).v;
        for (int i = 0; i < lines.size(); i++) {
            Line line = lines.get(i);
            if (stands(set, i)) {
                if (line.kind == 0) {
                    seats -= rank < line.x ? Math.min(seats, line.n) : 0;
                } else if (line.kind == 1) {
                    seats = houses < line.x ? seats : Math.min(9, seats + line.n);
                } else {
                    text = seats == 0 ? text : line.x;
                }
            }
        }
        return new int[] {seats, text};
    }

    int under(int set, int place, int day, int what) {
        int no = first(-1, others(set) || out(place, places), -2, out(what, 0, 1), -4, day < 0, -6, day > 2000);
        return no != 0 ? no : under(set, place, day)[what];
    }

    int gain(int line, int day, int what) {
        int no = first(-1, out(line, lines), -2, out(what, 0, 2), -4, day < 0, -6, day > 2000);
        if (no != 0) {
            return apart(no);
        }
        int without = all() - (1 << line);
        int[] sums = new int[3];
        boolean[][] voters = new boolean[2][persons.size()];
        for (int place = 0; place < places.size(); place++) {
            int[] with = under(all(), place, day);
            int[] less = under(without, place, day);
            sums[0] += with[0] > less[0] ? with[0] - less[0] : 0;
            sums[1] += with[0] < less[0] ? less[0] - with[0] : 0;
            for (int i = 0; i < persons.size() && what == 2; i++) {
                voters[0][i] |= votes(i, place, with[1], day);
                voters[1][i] |= votes(i, place, less[1], day);
            }
        }
        for (int i = 0; i < persons.size(); i++) {
            sums[2] += voters[0][i] && !voters[1][i] ? 1 : 0;
            sums[2] -= voters[1][i] && !voters[0][i] ? 1 : 0;
        }
        return sums[what];
    }

    int want(int knot, int line, int v) {
        int no = first(-1, out(knot, 0, 7) || out(line, 0, 8), -4, v < -9, -6, v > 9);
        if (no != 0) {
            return apart(no);
        }
        int was = wants[knot][line];
        wants[knot][line] = v;
        return was;
    }

    int bar(int knot, int v) {
        int no = first(-1, out(knot, 0, 7), -4, v < -99, -6, v > 99);
        if (no != 0) {
            return apart(no);
        }
        int was = bars[knot];
        bars[knot] = v;
        return was;
    }

    int read(int knot, int set) {
        int no = first(-1, out(knot, 0, 7), -4, set < 0, -6, set > 511);
        if (no != 0) {
            return no;
        }
        int was = reads[knot];
        reads[knot] = set;
        return was;
    }

    int there(int knot, int night, int least, int most) {
        int no = first(-1, out(knot, 0, 7) || out(night, 0, 4), -4, least < 0 || most < least,
                -6, least > 40 || most > 40);
        if (no != 0) {
            return no;
        }
        theres[knot][night] = new int[] {least, most};
        return 1;
    }

    private int there(int knot, int night, int which) {
        return (int) Math.min(theres[knot][night][which], members.stream().filter(m -> m.knot == knot).count());
    }

    private int wish(int knot, int set) {
        int sum = 0;
        for (int i = 0; i < 9; i++) {
            boolean counts = (set & 1 << i) != 0 && (reads[knot] & 1 << i) != 0;
            sum += counts ? wants[knot][i] : 0;
        }
        return sum;
    }

    private int divided(int set, int night, int what) {
        int sum = 0;
        for (int knot = 0; knot < 8; knot++) {
            boolean yes = wish(knot, standing(set)) > bars[knot];
            sum += yes ? there(knot, night, what) : -there(knot, night, 1 - what);
        }
        return sum;
    }

    int divide(int set, int night, int what) {
        int no = first(-1, others(set) || out(night, 0, 4), -2, out(what, 0, 1));
        return no != 0 ? apart(no) : divided(set, night, what);
    }

    int carry(int night, int what) {
        int no = first(-1, out(night, 0, 4), -2, out(what, 0, 8));
        if (no != 0) {
            return apart(no);
        }
        for (int many = 0; many <= lines.size(); many++) {
            for (int out = 0; out <= all(); out++) {
                int set = all() - out;
                if (Integer.bitCount(out) == many && standing(set) == set && divided(set, night, 0) > 0) {
                    return what == 0 ? out : wish(what - 1, out);
                }
            }
        }
        return what == 0 ? -9 : 0;
    }

    private boolean alone(int line, int night) {
        int sum = 0;
        for (int knot = 0; knot < 8; knot++) {
            int want = (reads[knot] & 1 << line) != 0 ? wants[knot][line] : 0;
            sum += want > 0 ? there(knot, night, 0) : want < 0 ? -there(knot, night, 1) : 0;
        }
        return sum > 0;
    }

    /** Every plan in order, line by line the least night ahead of none; the first of the best. */
    private int[] plan(int n, int c) {
        int[] best = new int[lines.size()];
        Arrays.fill(best, -9);
        boolean[][] can = new boolean[lines.size()][n];
        for (int i = 0; i < lines.size(); i++) {
            for (int night = 0; night < n; night++) {
                can[i][night] = alone(i, night);
            }
        }
        plan(0, c, can, best.clone(), best, new int[n]);
        return best;
    }

    private void plan(int line, int c, boolean[][] can, int[] plan, int[] best, int[] full) {
        if (Arrays.stream(full).sum() + plan.length - line <= brought(best)) {
            return;
        }
        if (line == plan.length) {
            System.arraycopy(plan, 0, best, 0, plan.length);
            return;
        }
        int earliest = 0;
        for (int i = 0; i < line; i++) {
            if ((lines.get(line).hangs & 1 << i) != 0) {
                earliest = plan[i] < 0 ? 99 : Math.max(earliest, plan[i]);
            }
        }
        for (int night = earliest; night < full.length; night++) {
            if (can[line][night] && full[night] < c) {
                plan[line] = night;
                full[night]++;
                plan(line + 1, c, can, plan, best, full);
                full[night]--;
            }
        }
        plan[line] = -9;
        plan(line + 1, c, can, plan, best, full);
    }

    private static int brought(int[] plan) {
        return (int) Arrays.stream(plan).filter(night -> night >= 0).count();
    }

    int nights(int n, int c) {
        int no = first(-4, n < 1 || c < 1, -6, n > 5 || c > 9);
        return no != 0 ? no : brought(plan(n, c));
    }

    int nightOf(int n, int c, int line) {
        int no = first(-1, out(line, lines), -4, n < 1 || c < 1, -6, n > 5 || c > 9);
        return no != 0 ? no : plan(n, c)[line];
    }

    int patron(int patron, int side) {
        int no = first(-1, out(patron, 0, 5), -2, out(side, 0, 3));
        if (no != 0) {
            return no;
        }
        int was = sides[patron];
        sides[patron] = side;
        return was;
    }

    int elect(int set, int place, int day, int what) {
        int no = first(-1, others(set) || out(place, places), -2, out(what, 0, 5), -4, day < 0, -6, day > 2000);
        if (no != 0) {
            return no;
        }
        int[] under = under(set, place, day);
        int[] votes = new int[4];
        int patron = places.get(place).patron;
        for (int i = 0; i < persons.size(); i++) {
            if (votes(i, place, under[1], day)) {
                Person p = persons.get(i);
                votes[patron >= 0 && p.debt == patron ? sides[patron] : p.wish]++;
            }
        }
        if (what < 4) {
            return votes[what];
        }
        List<Integer> order = new ArrayList<>(List.of(0, 1, 2, 3));
        order.sort((a, b) -> votes[a] != votes[b] ? votes[b] - votes[a] : a - b);
        order.removeIf(side -> votes[side] == 0);
        int in = Math.min(under[0], order.size());
        if (what == 4) {
            return order.subList(0, in).stream().mapToInt(side -> 1 << side).sum();
        }
        return in > 0 && in < order.size() && votes[order.get(in - 1)] == votes[order.get(in)] ? 1 : 0;
    }

    int put(int v) {
        int no = first(-6, row.size() == 20);
        if (no != 0) {
            return no;
        }
        row.add(v);
        return row.size();
    }

    int check(int set, int day) {
        int no = first(-1, others(set), -4, day < 0, -6, day > 2000);
        if (no != 0) {
            return no;
        }
        List<Integer> of = new ArrayList<>(row);
        row.clear();
        for (int i = 0; i < of.size(); i++) {
            if (i >= places.size() || of.get(i) != under(set, i, day)[0]) {
                return i;
            }
        }
        return -9;
    }

    int count(int what) {
        int[] counts = {now, places.size(), rolls.size(), persons.size() - gone.size(), rights.size(), texts.size(),
            petitions.size(), members.size(), lines.size(), sales.size(), tape.length(), refused[1], refused[2],
            refused[3], refused[4], refused[5], refused[6], row.size()};
        return out(what, 0, counts.length - 1) ? -9 : counts[what];
    }
}
