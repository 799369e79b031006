import java.util.Arrays;

/**
 * Rotten seats: places by their rolls, who may vote in them, what seats are worth, and a bill of
 * lines that takes and gives seats. The numbered promises of DOC.md tell what each call answers.
 *
 * <p>Every array is made with the object and used again: no call makes anything.
 */
public final class RottenSeats {
    private static final int NOBODY = -1;
    private static final int OTHER = -2;
    private static final int STATE = -3;
    private static final int BELOW = -4;
    private static final int ROOM = -6;
    private static final int NONE = -9;
    private static final int APART = 1000000000;

    private static final int LAST_DAY = 2000;
    private static final int EARLIEST_DAY = -2000;
    private static final int YEAR = 365;
    private static final int PLACES_MOST = 16;
    private static final int SIDES = 4;
    private static final int PATRONS = 6;
    private static final int KNOTS = 8;
    private static final int NIGHTS = 5;
    private static final int LINES_MOST = 9;
    private static final int LINE_SETS = 512;
    private static final int ROLL_GREATEST = 9999;
    private static final int ROW_MOST = 20;

    private final Places places = new Places();
    private final Rolls rolls = new Rolls();
    private final People people = new People();
    private final Tape tape = new Tape();
    private final Texts texts = new Texts();
    private final Petitions petitions = new Petitions();
    private final Sales sales = new Sales();
    private final Members members = new Members();
    private final Bill bill = new Bill();
    private final Knots knots = new Knots();
    private final Plan plan = new Plan();
    private final int[] refusals = new int[6];
    private final int[] votes = new int[SIDES];
    private final int[] row = new int[ROW_MOST];
    private int rowSize;
    private int today;

    public RottenSeats() {
    }

    public int days(int n) {
        if (n < 1) {
            return refuse(BELOW);
        }
        if (n > LAST_DAY - today) {
            return refuse(ROOM);
        }
        today += n;
        return today;
    }

    public int place(int seats, int patron) {
        if (!isPatronOrNone(patron)) {
            return refuse(NOBODY);
        }
        if (seats < 0) {
            return refuse(BELOW);
        }
        if (seats > 2 || places.size >= PLACES_MOST) {
            return refuse(ROOM);
        }
        return places.add(seats, patron);
    }

    public int roll(int place, int what, int day, int v, int wrong) {
        if (!places.has(place)) {
            return refuse(NOBODY);
        }
        if (!isWithin(what, 1)) {
            return refuse(OTHER);
        }
        if (day < 0 || v < 0 || wrong < 0) {
            return refuse(BELOW);
        }
        if (day > today || v > ROLL_GREATEST || wrong > 999 || rolls.size >= Rolls.MOST) {
            return refuse(ROOM);
        }
        return rolls.add(place * 2 + what, day, today, v, wrong);
    }

    public int number(int place, int what, int j, int k, boolean wrong) {
        if (!places.has(place)) {
            return refuse(NOBODY);
        }
        if (!isWithin(what, 1)) {
            return refuse(OTHER);
        }
        int refusal = refuseDays(j, k);
        if (refusal != 0) {
            return refusal;
        }
        int found = rolls.find(place * 2 + what, j, k);
        return wrong ? rolls.wrongOf(found) : rolls.valueOf(found);
    }

    public int weigh(int what, int v) {
        if (!isWithin(what, 1)) {
            return refuse(OTHER);
        }
        if (v < 0) {
            return refuse(BELOW);
        }
        if (v > 99) {
            return refuse(ROOM);
        }
        int was = rolls.weights[what];
        rolls.weights[what] = v;
        return was;
    }

    public int list(int place, int j, int k, int what) {
        if (!places.has(place)) {
            return refuse(NOBODY);
        }
        if (!isWithin(what, 3)) {
            return refuse(OTHER);
        }
        int refusal = refuseDays(j, k);
        if (refusal != 0) {
            return refusal;
        }
        rolls.drawList(places.size, j, k);
        switch (what) {
            case 0:
                return rolls.scores[place];
            case 1:
                return rolls.rankOf(place);
            case 2:
                return rolls.leastRankOf(place);
            default:
                return rolls.greatestRankOf(place);
        }
    }

    public int ranked(int rank, int j, int k) {
        int refusal = refuseDays(j, k);
        if (refusal != 0) {
            return refusal;
        }
        rolls.drawList(places.size, j, k);
        for (int place = 0; place < places.size; place++) {
            if (rolls.rankOf(place) == rank) {
                return place;
            }
        }
        return NONE;
    }

    public int person(int place, int since, int wish, int debt) {
        if (!places.has(place) || !isPatronOrNone(debt)) {
            return refuse(NOBODY);
        }
        if (!isWithin(wish, SIDES - 1)) {
            return refuse(OTHER);
        }
        if (since < EARLIEST_DAY) {
            return refuse(BELOW);
        }
        if (since > today || people.size >= People.MOST) {
            return refuse(ROOM);
        }
        return people.add(place, since, wish, debt);
    }

    public int gone(int person) {
        if (!people.has(person)) {
            return refuse(NOBODY);
        }
        if (people.away[person]) {
            return refuse(STATE);
        }
        people.away[person] = true;
        return 1;
    }

    public int right(int person, int place, int kind, int v, int since) {
        if (!people.has(person) || !places.has(place)) {
            return refuse(NOBODY);
        }
        if (!isWithin(kind, 2)) {
            return refuse(OTHER);
        }
        if (kind != People.HEARTH && v < 1 || since < EARLIEST_DAY) {
            return refuse(BELOW);
        }
        boolean tooGreat = kind == People.PLOT && v > 99 || kind == People.GUILD && v > 3;
        if (tooGreat || since > today || people.rights >= People.RIGHTS_MOST) {
            return refuse(ROOM);
        }
        return people.addRight(person, place, kind, v, since);
    }

    public int end(int right) {
        if (right < 0 || right >= people.rights) {
            return refuse(NOBODY);
        }
        if (people.rightEnds[right] != People.OPEN) {
            return refuse(STATE);
        }
        people.rightEnds[right] = today;
        return 1;
    }

    public int feed(int n, long bytes) {
        if (n < 1) {
            return refuse(BELOW);
        }
        if (n > 8 || tape.size + n > Tape.MOST) {
            return refuse(ROOM);
        }
        return tape.take(n, bytes);
    }

    public int text(boolean facts) {
        if (facts ? petitions.size >= Petitions.MOST : texts.size >= Texts.MOST) {
            return refuse(ROOM);
        }
        int fault = tape.translate(facts);
        if (fault >= 0) {
            return -20 - fault;
        }
        return facts ? petitions.add(tape.steps, tape.length) : texts.add(tape.steps, tape.length);
    }

    public int old(int place, int text, int day) {
        if (!places.has(place) || !texts.has(text)) {
            return refuse(NOBODY);
        }
        if (day < 0) {
            return refuse(BELOW);
        }
        if (day > LAST_DAY || places.olds >= Places.OLDS_MOST) {
            return refuse(ROOM);
        }
        return places.addOld(place, text, day);
    }

    public int may(int person, int place, int day, int what) {
        if (!people.has(person) || !places.has(place)) {
            return refuse(NOBODY);
        }
        if (!isWithin(what, 4)) {
            return refuse(OTHER);
        }
        int refusal = refuseDays(day, day);
        if (refusal != 0) {
            return refusal;
        }
        if (what == 0) {
            return isVoter(person, place, places.textOn(place, day), day) ? 1 : 0;
        }
        people.gather(person, place, day);
        return people.facts[what - 1];
    }

    public int furrows(int place, int day, int what) {
        if (!places.has(place)) {
            return refuse(NOBODY);
        }
        if (!isWithin(what, 1)) {
            return refuse(OTHER);
        }
        int refusal = refuseDays(day, day);
        if (refusal != 0) {
            return refusal;
        }
        int text = places.textOn(place, day);
        int found = 0;
        int least = NONE;
        for (int person = people.size - 1; person >= 0; person--) {
            if (isVoter(person, place, text, day) && !isVoter(person, place, text, day - YEAR)) {
                found++;
                least = person;
            }
        }
        return what == 0 ? found : least;
    }

    public int sell(int place, int from, int to, int price) {
        if (!places.has(place)) {
            return refuse(NOBODY);
        }
        if (from < 0 || to < from || price < 0) {
            return refuse(BELOW);
        }
        if (to > 9999 || price > 9999 || sales.size >= Sales.MOST) {
            return refuse(ROOM);
        }
        return sales.add(place, from, to);
    }

    public int twice(int place) {
        if (!places.has(place)) {
            return refuse(NOBODY);
        }
        return sales.firstTooMany(place, places.seats[place]);
    }

    public int base(int place, int v) {
        if (!places.has(place)) {
            return refuse(NOBODY);
        }
        if (v < 0) {
            return refuse(BELOW);
        }
        if (v > 999) {
            return refuse(ROOM);
        }
        int was = places.bases[place];
        places.bases[place] = v;
        return was;
    }

    public int worth(int place, int years, int standing) {
        if (!places.has(place)) {
            return refuse(NOBODY);
        }
        if (years < 1 || standing < 0) {
            return refuse(BELOW);
        }
        if (years > 7 || standing > 100) {
            return refuse(ROOM);
        }
        int whole = places.bases[place] * years * (100 - standing) / 100;
        int voters = 0;
        int text = places.textOn(place, today);
        for (int person = 0; person < people.size; person++) {
            if (isVoter(person, place, text, today)) {
                voters++;
            }
        }
        return Math.max(0, whole - whole / 20 * voters);
    }

    public int fact(int petition, int which, int what) {
        if (!petitions.has(petition)) {
            return refuse(NOBODY);
        }
        if (!isWithin(which, Petitions.FACTS - 1) || !isWithin(what, Petitions.UNTOLD)) {
            return refuse(OTHER);
        }
        int was = petitions.told[petition][which];
        petitions.told[petition][which] = what;
        return was;
    }

    public int ends(int petition, int what) {
        if (!petitions.has(petition)) {
            return refuse(NOBODY);
        }
        switch (what) {
            case 0:
                return Integer.bitCount(petitions.truths[petition] & petitions.possible(petition));
            case 1:
                return Integer.bitCount(petitions.possible(petition));
            case 2:
                return petitions.witness(petition);
            default:
                return refuse(OTHER);
        }
    }

    public int member(int knot, int lean) {
        if (!isKnot(knot)) {
            return refuse(NOBODY);
        }
        if (lean < -9) {
            return refuse(BELOW);
        }
        if (lean > 9 || members.size >= Members.MOST) {
            return refuse(ROOM);
        }
        return members.add(knot, lean);
    }

    public int lot(int seed, int what) {
        if (!isWithin(what, Members.JUDGES)) {
            return refuse(OTHER);
        }
        if (seed < 0) {
            return refuse(BELOW);
        }
        if (seed > 9999) {
            return refuse(ROOM);
        }
        if (members.size < Members.DRAWN) {
            return refuse(STATE);
        }
        members.draw(seed);
        members.strike();
        return what == Members.JUDGES ? members.verdict() : members.judge(what);
    }

    public int line(int kind, int n, int x, int hangs) {
        if (!isWithin(kind, 2)) {
            return refuse(OTHER);
        }
        if (n < 1 || x < 0 || hangs < 0) {
            return refuse(BELOW);
        }
        if (n > 2 || x > 9999 || bill.size >= LINES_MOST) {
            return refuse(ROOM);
        }
        if (kind == Bill.TEXT && !texts.has(x)) {
            return refuse(NOBODY);
        }
        if (bill.hasOthers(hangs)) {
            return refuse(STATE);
        }
        return bill.add(kind, n, x, hangs);
    }

    public int stands(int set) {
        return bill.hasOthers(set) ? NONE : bill.standing(set);
    }

    public int falls(int line) {
        if (!bill.has(line)) {
            return refuse(NOBODY);
        }
        return bill.all() & ~bill.standing(bill.allBut(line));
    }

    public int under(int set, int place, int day, int what) {
        if (bill.hasOthers(set) || !places.has(place)) {
            return refuse(NOBODY);
        }
        if (!isWithin(what, 1)) {
            return refuse(OTHER);
        }
        int refusal = refuseDays(day, day);
        if (refusal != 0) {
            return refusal;
        }
        applyBill(set, day);
        return what == 0 ? bill.seats[place] : bill.texts[place];
    }

    public int gain(int line, int day, int what) {
        if (!bill.has(line)) {
            return refuseApart(NOBODY);
        }
        if (!isWithin(what, 2)) {
            return refuseApart(OTHER);
        }
        int refusal = refuseDays(day, day);
        if (refusal != 0) {
            return APART - refusal;
        }
        applyBill(bill.all(), day);
        if (what == 2) {
            int voters = countVoters(day);
            applyBill(bill.allBut(line), day);
            return voters - countVoters(day);
        }
        bill.keepSeats();
        applyBill(bill.allBut(line), day);
        return bill.changedSeats(places.size, what == 0);
    }

    public int want(int knot, int line, int v) {
        if (!isKnot(knot) || !isWithin(line, LINES_MOST - 1)) {
            return refuseApart(NOBODY);
        }
        if (v < -9) {
            return refuseApart(BELOW);
        }
        if (v > 9) {
            return refuseApart(ROOM);
        }
        int was = knots.wants[knot][line];
        knots.wants[knot][line] = v;
        return was;
    }

    public int bar(int knot, int v) {
        if (!isKnot(knot)) {
            return refuseApart(NOBODY);
        }
        if (v < -99) {
            return refuseApart(BELOW);
        }
        if (v > 99) {
            return refuseApart(ROOM);
        }
        int was = knots.bars[knot];
        knots.bars[knot] = v;
        return was;
    }

    public int read(int knot, int set) {
        if (!isKnot(knot)) {
            return refuse(NOBODY);
        }
        if (set < 0) {
            return refuse(BELOW);
        }
        if (set >= LINE_SETS) {
            return refuse(ROOM);
        }
        int was = knots.reads[knot];
        knots.reads[knot] = set;
        return was;
    }

    public int there(int knot, int night, int least, int most) {
        if (!isKnot(knot) || !isNight(night)) {
            return refuse(NOBODY);
        }
        if (least < 0 || most < least) {
            return refuse(BELOW);
        }
        if (most > 40) {
            return refuse(ROOM);
        }
        knots.leasts[knot][night] = least;
        knots.mosts[knot][night] = most;
        return 1;
    }

    public int divide(int set, int night, int what) {
        if (bill.hasOthers(set) || !isNight(night)) {
            return refuseApart(NOBODY);
        }
        if (!isWithin(what, 1)) {
            return refuseApart(OTHER);
        }
        return knots.margin(bill.standing(set), night, what == 0, members);
    }

    public int carry(int night, int what) {
        if (!isNight(night)) {
            return refuseApart(NOBODY);
        }
        if (!isWithin(what, KNOTS)) {
            return refuseApart(OTHER);
        }
        int out = knots.leastOut(night, bill, members);
        if (what == 0) {
            return out;
        }
        return out == NONE ? 0 : knots.wish(what - 1, out);
    }

    public int nights(int n, int c) {
        int refusal = refusePlan(n, c);
        if (refusal != 0) {
            return refusal;
        }
        plan.make(n, c, bill, knots, members);
        return plan.brought();
    }

    public int nightOf(int n, int c, int line) {
        if (!bill.has(line)) {
            return refuse(NOBODY);
        }
        int refusal = refusePlan(n, c);
        if (refusal != 0) {
            return refusal;
        }
        plan.make(n, c, bill, knots, members);
        return plan.nightsOf[line];
    }

    public int patron(int patron, int side) {
        if (!isWithin(patron, PATRONS - 1)) {
            return refuse(NOBODY);
        }
        if (!isWithin(side, SIDES - 1)) {
            return refuse(OTHER);
        }
        int was = places.sides[patron];
        places.sides[patron] = side;
        return was;
    }

    public int elect(int set, int place, int day, int what) {
        if (bill.hasOthers(set) || !places.has(place)) {
            return refuse(NOBODY);
        }
        if (!isWithin(what, SIDES + 1)) {
            return refuse(OTHER);
        }
        int refusal = refuseDays(day, day);
        if (refusal != 0) {
            return refusal;
        }
        applyBill(set, day);
        countVotes(place, day);
        if (what < SIDES) {
            return votes[what];
        }
        int in = sidesIn(bill.seats[place]);
        return what == SIDES ? in : isQuarrelled(in) ? 1 : 0;
    }

    public int put(int v) {
        if (rowSize >= ROW_MOST) {
            return refuse(ROOM);
        }
        row[rowSize] = v;
        rowSize++;
        return rowSize;
    }

    public int check(int set, int day) {
        if (bill.hasOthers(set)) {
            return refuse(NOBODY);
        }
        int refusal = refuseDays(day, day);
        if (refusal != 0) {
            return refusal;
        }
        applyBill(set, day);
        int size = rowSize;
        rowSize = 0;
        for (int i = 0; i < size; i++) {
            if (!places.has(i) || row[i] != bill.seats[i]) {
                return i;
            }
        }
        return NONE;
    }

    public int count(int what) {
        if (what >= 11 && what <= 16) {
            return refusals[what - 11];
        }
        switch (what) {
            case 0:
                return today;
            case 1:
                return places.size;
            case 2:
                return rolls.size;
            case 3:
                return people.here();
            case 4:
                return people.rights;
            case 5:
                return texts.size;
            case 6:
                return petitions.size;
            case 7:
                return members.size;
            case 8:
                return bill.size;
            case 9:
                return sales.size;
            case 10:
                return tape.size;
            case 17:
                return rowSize;
            default:
                return NONE;
        }
    }

    private int refuse(int number) {
        if (number >= ROOM && number <= NOBODY) {
            refusals[-number - 1]++;
        }
        return number;
    }

    /** For calls whose own answers may be below 0, so that a refusal can be told from them. */
    private int refuseApart(int number) {
        return APART - refuse(number);
    }

    /** 0 if both days can be asked for, else the refusal. */
    private int refuseDays(int j, int k) {
        if (j < 0 || k < 0) {
            return refuse(BELOW);
        }
        return j > LAST_DAY || k > LAST_DAY ? refuse(ROOM) : 0;
    }

    /** 0 if there may be n nights of c lines, else the refusal. */
    private int refusePlan(int n, int c) {
        if (n < 1 || c < 1) {
            return refuse(BELOW);
        }
        return n > NIGHTS || c > 9 ? refuse(ROOM) : 0;
    }

    private static boolean isWithin(int v, int greatest) {
        return v >= 0 && v <= greatest;
    }

    private static boolean isPatronOrNone(int patron) {
        return patron >= -1 && patron < PATRONS;
    }

    private static boolean isKnot(int knot) {
        return isWithin(knot, KNOTS - 1);
    }

    private static boolean isNight(int night) {
        return isWithin(night, NIGHTS - 1);
    }

    private void applyBill(int set, int day) {
        rolls.drawList(places.size, day, today);
        bill.apply(set, day, places, rolls);
    }

    /** Whether a person here now votes in a place by a text, with facts as of a day. */
    private boolean isVoter(int person, int place, int text, int day) {
        if (!people.has(person) || people.away[person] || !texts.has(text)) {
            return false;
        }
        people.gather(person, place, day);
        return Texts.decide(texts.rules[text], texts.lengths[text], people.facts);
    }

    /** How many persons vote in at least one place by the texts of the bill just applied. */
    private int countVoters(int day) {
        int voters = 0;
        for (int person = 0; person < people.size; person++) {
            if (votesSomewhere(person, day)) {
                voters++;
            }
        }
        return voters;
    }

    private boolean votesSomewhere(int person, int day) {
        for (int place = 0; place < places.size; place++) {
            if (isVoter(person, place, bill.texts[place], day)) {
                return true;
            }
        }
        return false;
    }

    private void countVotes(int place, int day) {
        Arrays.fill(votes, 0);
        int patron = places.patrons[place];
        int text = bill.texts[place];
        for (int person = 0; person < people.size; person++) {
            if (isVoter(person, place, text, day)) {
                // Without a patron nobody is in debt to one, though both are told as -1.
                boolean owes = isWithin(patron, PATRONS - 1) && people.debts[person] == patron;
                int side = owes ? places.sides[patron] : people.wishes[person];
                votes[side]++;
            }
        }
    }

    private int sidesIn(int seats) {
        int in = 0;
        for (int i = 0; i < seats && i < SIDES; i++) {
            int next = strongestOutside(in);
            if (next != NONE) {
                in |= 1 << next;
            }
        }
        return in;
    }

    private int strongestOutside(int in) {
        int strongest = NONE;
        int most = 0;
        for (int side = 0; side < SIDES; side++) {
            if ((in >> side & 1) == 0 && votes[side] > most) {
                strongest = side;
                most = votes[side];
            }
        }
        return strongest;
    }

    /** The last side that is in has the fewest votes of those that are. */
    private boolean isQuarrelled(int in) {
        int first = strongestOutside(in);
        if (first == NONE) {
            return false;
        }
        for (int side = 0; side < SIDES; side++) {
            if ((in >> side & 1) == 1 && votes[side] == votes[first]) {
                return true;
            }
        }
        return false;
    }

    /** Places, the texts told for them from a day on, and the sides of patrons. */
    private static final class Places {
        static final int OLDS_MOST = 40;

        final int[] seats = new int[PLACES_MOST];
        final int[] patrons = new int[PLACES_MOST];
        final int[] bases = new int[PLACES_MOST];
        final int[] sides = {0, 1, 2, 3, 0, 1};
        int size;
        final int[] oldPlaces = new int[OLDS_MOST];
        final int[] oldTexts = new int[OLDS_MOST];
        final int[] oldDays = new int[OLDS_MOST];
        int olds;

        boolean has(int place) {
            return place >= 0 && place < size;
        }

        int add(int sent, int patron) {
            seats[size] = sent;
            patrons[size] = patron;
            bases[size] = 100;
            size++;
            return size - 1;
        }

        int addOld(int place, int text, int day) {
            oldPlaces[olds] = place;
            oldTexts[olds] = text;
            oldDays[olds] = day;
            olds++;
            return olds;
        }

        int textOn(int place, int day) {
            int text = NONE;
            int latest = -1;
            for (int i = 0; i < olds; i++) {
                if (oldPlaces[i] == place && oldDays[i] <= day && oldDays[i] >= latest) {
                    text = oldTexts[i];
                    latest = oldDays[i];
                }
            }
            return text;
        }
    }

    /** Rolls of houses and taxes, and the list of places by score that is drawn from them. */
    private static final class Rolls {
        static final int MOST = 120;

        /** Of which place and what: twice the place for houses, and 1 for taxes. */
        final int[] subjects = new int[MOST];
        final int[] asOf = new int[MOST];
        final int[] toldOn = new int[MOST];
        final int[] values = new int[MOST];
        final int[] wrongs = new int[MOST];
        int size;
        final int[] weights = {1, 1};
        final int[] houses = new int[PLACES_MOST];
        final int[] scores = new int[PLACES_MOST];
        final int[] leasts = new int[PLACES_MOST];
        final int[] greatests = new int[PLACES_MOST];
        int listed;

        int add(int subject, int day, int told, int value, int wrong) {
            subjects[size] = subject;
            asOf[size] = day;
            toldOn[size] = told;
            values[size] = value;
            wrongs[size] = wrong;
            size++;
            return size;
        }

        int find(int subject, int j, int k) {
            int found = NONE;
            int latest = -1;
            for (int i = 0; i < size; i++) {
                boolean known = subjects[i] == subject && asOf[i] <= j && toldOn[i] <= k;
                if (known && asOf[i] >= latest) {
                    found = i;
                    latest = asOf[i];
                }
            }
            return found;
        }

        int valueOf(int found) {
            return found < 0 || found >= size ? 0 : values[found];
        }

        int wrongOf(int found) {
            return found < 0 || found >= size ? 0 : wrongs[found];
        }

        void drawList(int count, int j, int k) {
            listed = Math.min(count, PLACES_MOST);
            for (int place = 0; place < listed; place++) {
                scores[place] = 0;
                leasts[place] = 0;
                greatests[place] = 0;
                for (int what = 0; what < 2; what++) {
                    int found = find(place * 2 + what, j, k);
                    int value = valueOf(found);
                    int wrong = wrongOf(found);
                    houses[place] = what == 0 ? value : houses[place];
                    scores[place] += value * weights[what];
                    leasts[place] += Math.max(0, value - wrong) * weights[what];
                    greatests[place] += (value + wrong) * weights[what];
                }
            }
        }

        int rankOf(int place) {
            int ahead = 0;
            for (int other = 0; other < listed; other++) {
                boolean tie = scores[other] == scores[place] && other < place;
                if (scores[other] < scores[place] || tie) {
                    ahead++;
                }
            }
            return ahead;
        }

        int leastRankOf(int place) {
            int surely = 0;
            for (int other = 0; other < listed; other++) {
                if (greatests[other] < leasts[place]) {
                    surely++;
                }
            }
            return surely;
        }

        int greatestRankOf(int place) {
            int perhaps = 0;
            for (int other = 0; other < listed; other++) {
                if (other != place && leasts[other] <= greatests[place]) {
                    perhaps++;
                }
            }
            return perhaps;
        }
    }

    /** Persons, their rights, and the facts about one of them by which a text decides. */
    private static final class People {
        static final int MOST = 40;
        static final int RIGHTS_MOST = 80;
        static final int HEARTH = 0;
        static final int PLOT = 1;
        static final int GUILD = 2;
        /** The end of a right that is not ended: no day that can be asked for. */
        static final int OPEN = LAST_DAY + 1;

        final int[] homes = new int[MOST];
        final int[] sinces = new int[MOST];
        final int[] wishes = new int[MOST];
        final int[] debts = new int[MOST];
        final boolean[] away = new boolean[MOST];
        int size;
        final int[] rightPersons = new int[RIGHTS_MOST];
        final int[] rightPlaces = new int[RIGHTS_MOST];
        final int[] rightKinds = new int[RIGHTS_MOST];
        final int[] rightValues = new int[RIGHTS_MOST];
        final int[] rightSinces = new int[RIGHTS_MOST];
        final int[] rightEnds = new int[RIGHTS_MOST];
        int rights;
        /** In the order of Tape.TEXT_FACTS: h, p, g, d, y. */
        final int[] facts = new int[5];

        boolean has(int person) {
            return person >= 0 && person < size;
        }

        int add(int place, int since, int wish, int debt) {
            homes[size] = place;
            sinces[size] = since;
            wishes[size] = wish;
            debts[size] = debt;
            size++;
            return size - 1;
        }

        int addRight(int person, int place, int kind, int value, int since) {
            rightPersons[rights] = person;
            rightPlaces[rights] = place;
            rightKinds[rights] = kind;
            rightValues[rights] = value;
            rightSinces[rights] = since;
            rightEnds[rights] = OPEN;
            rights++;
            return rights - 1;
        }

        int here() {
            int here = 0;
            for (int person = 0; person < size; person++) {
                if (!away[person]) {
                    here++;
                }
            }
            return here;
        }

        void gather(int person, int place, int day) {
            Arrays.fill(facts, 0);
            boolean lives = homes[person] == place && sinces[person] <= day;
            facts[3] = lives ? day - sinces[person] + 1 : 0;
            int kinds = 0;
            for (int i = 0; i < rights; i++) {
                boolean theirs = rightPersons[i] == person && rightPlaces[i] == place;
                if (theirs && rightSinces[i] <= day && day < rightEnds[i]) {
                    kinds |= 1 << rightKinds[i];
                    addToFacts(i, day);
                }
            }
            facts[4] = kinds == 7 ? 1 : 0;
        }

        private void addToFacts(int right, int day) {
            int value = rightValues[right];
            if (rightKinds[right] == HEARTH) {
                facts[0] = Math.max(facts[0], day - rightSinces[right] + 1);
            } else if (rightKinds[right] == PLOT) {
                facts[1] += value;
            } else {
                facts[2] = facts[2] == 0 ? value : Math.min(facts[2], value);
            }
        }
    }

    /**
     * Bytes that come in, and the reading of them as a rule. What is read becomes a row of steps:
     * a comparison (0 or more) sets an answer on top of the others, NOT turns the one on top, AND
     * and OR make one of the two on top. A byte makes at most one step, so the row has room.
     */
    private static final class Tape {
        static final int MOST = 40;
        static final int DEEPEST = 4;
        static final int NOT = -1;
        static final int AND = -2;
        static final int OR = -3;
        /** A unit from here on is a fact; below it a number of up to four digits. */
        static final int FIRST_FACT = 10000;
        static final String TEXT_FACTS = "hpgdy";
        static final String PETITION_FACTS = "abcd";

        final int[] bytes = new int[MOST];
        int size;
        final int[] steps = new int[MOST];
        int length;
        private int at;
        private String letters = TEXT_FACTS;

        int take(int n, long more) {
            for (int i = 0; i < n && size < MOST; i++) {
                bytes[size] = (int) (more >> 8 * i & 255);
                size++;
            }
            return size;
        }

        /** The place of the fault, or -1; the tape is empty then. */
        int translate(boolean petition) {
            letters = petition ? PETITION_FACTS : TEXT_FACTS;
            at = 0;
            length = 0;
            boolean whole = readRule(0) && at == size;
            size = 0;
            return whole ? -1 : at;
        }

        private int next() {
            return at < size && at < MOST ? bytes[at] : -1;
        }

        private void emit(int step) {
            if (length < MOST) {
                steps[length] = step;
                length++;
            }
        }

        // None of these steps past a byte that can not stand, so a fault is always at 'at'.

        private boolean readRule(int depth) {
            boolean good = readTerm(depth);
            while (good && at < size && next() == '|') {
                at++;
                good = readTerm(depth);
                emit(OR);
            }
            return good;
        }

        private boolean readTerm(int depth) {
            boolean good = readPart(depth);
            while (good && at < size && next() == '&') {
                at++;
                good = readPart(depth);
                emit(AND);
            }
            return good;
        }

        private boolean readPart(int depth) {
            int inside = depth;
            while (inside < DEEPEST && next() == '!') {
                at++;
                inside++;
            }
            boolean good = next() == '(' ? readBracket(inside) : readComparison();
            if ((inside - depth) % 2 == 1) {
                emit(NOT);
            }
            return good;
        }

        private boolean readBracket(int depth) {
            if (depth >= DEEPEST) {
                return false;
            }
            at++;
            if (!readRule(depth + 1) || next() != ')') {
                return false;
            }
            at++;
            return true;
        }

        private boolean readComparison() {
            int left = readUnit();
            int sign = next();
            if (left < 0 || sign < '<' || sign > '>') {
                return false;
            }
            at++;
            int right = readUnit();
            if (right < 0) {
                return false;
            }
            emit(left << 16 | right << 2 | sign - '<');
            return true;
        }

        /** A number, a fact from FIRST_FACT on, or -1. */
        private int readUnit() {
            for (int i = 0; i < letters.length(); i++) {
                if (letters.charAt(i) == next()) {
                    at++;
                    return FIRST_FACT + i;
                }
            }
            int number = -1;
            for (int digits = 0; digits < 4 && next() >= '0' && next() <= '9'; digits++) {
                number = Math.max(0, number) * 10 + next() - '0';
                at++;
            }
            return number;
        }
    }

    /** Rules by which persons may vote. */
    private static final class Texts {
        static final int MOST = 20;

        final int[][] rules = new int[MOST][Tape.MOST];
        final int[] lengths = new int[MOST];
        int size;

        boolean has(int text) {
            return text >= 0 && text < size;
        }

        int add(int[] steps, int length) {
            System.arraycopy(steps, 0, rules[size], 0, length);
            lengths[size] = length;
            size++;
            return size - 1;
        }

        /** The answers that wait are the bits of one int, the newest the lowest. */
        static boolean decide(int[] steps, int length, int[] facts) {
            int answers = 0;
            for (int i = 0; i < length; i++) {
                int step = steps[i];
                if (step >= 0) {
                    answers = answers << 1 | (compares(step, facts) ? 1 : 0);
                } else if (step == Tape.NOT) {
                    answers ^= 1;
                } else if (step == Tape.AND) {
                    answers = answers >> 1 & (answers | ~1);
                } else {
                    answers = answers >> 1 | answers & 1;
                }
            }
            return (answers & 1) == 1;
        }

        private static boolean compares(int step, int[] facts) {
            int left = valueOf(step >> 16, facts);
            int right = valueOf(step >> 2 & 16383, facts);
            switch (step & 3) {
                case 0:
                    return left < right;
                case 1:
                    return left == right;
                default:
                    return left > right;
            }
        }

        private static int valueOf(int unit, int[] facts) {
            int fact = unit - Tape.FIRST_FACT;
            if (fact < 0) {
                return unit;
            }
            return fact < facts.length ? facts[fact] : 0;
        }
    }

    /** Petitions. A set of four facts is a number 0 .. 15, so sets of them are the bits of one int. */
    private static final class Petitions {
        static final int MOST = 10;
        static final int FACTS = 4;
        static final int UNTOLD = 2;
        static final int EVERY_SET = 65535;

        final int[] truths = new int[MOST];
        final int[][] told = new int[MOST][FACTS];
        int size;
        private final int[] facts = new int[FACTS];

        boolean has(int petition) {
            return petition >= 0 && petition < size;
        }

        int add(int[] steps, int length) {
            for (int set = 0; set < 16; set++) {
                for (int fact = 0; fact < FACTS; fact++) {
                    facts[fact] = set >> fact & 1;
                }
                if (Texts.decide(steps, length, facts)) {
                    truths[size] |= 1 << set;
                }
            }
            Arrays.fill(told[size], UNTOLD);
            size++;
            return size - 1;
        }

        int possible(int petition) {
            int sets = EVERY_SET;
            for (int fact = 0; fact < FACTS; fact++) {
                if (told[petition][fact] != UNTOLD) {
                    sets &= setsWith(fact, told[petition][fact] == 1);
                }
            }
            return sets;
        }

        int witness(int petition) {
            int sets = possible(petition);
            int truth = truths[petition];
            int best = NONE;
            int least = 0;
            for (int fact = 0; fact < FACTS; fact++) {
                int doubts = doubt(truth, sets & setsWith(fact, true))
                        + doubt(truth, sets & setsWith(fact, false));
                if (told[petition][fact] == UNTOLD && (best == NONE || doubts < least)) {
                    best = fact;
                    least = doubts;
                }
            }
            return best;
        }

        private static int doubt(int truth, int sets) {
            return Math.min(Integer.bitCount(sets & truth), Integer.bitCount(sets & ~truth));
        }

        private static int setsWith(int fact, boolean so) {
            int sets = 0;
            for (int set = 0; set < 16; set++) {
                if ((set >> fact & 1) == (so ? 1 : 0)) {
                    sets |= 1 << set;
                }
            }
            return sets;
        }
    }

    /** Sales of seats. The price is looked at when it is told; nothing asks for it later. */
    private static final class Sales {
        static final int MOST = 30;

        final int[] sold = new int[MOST];
        final int[] froms = new int[MOST];
        final int[] tos = new int[MOST];
        int size;

        int add(int place, int from, int to) {
            sold[size] = place;
            froms[size] = from;
            tos[size] = to;
            size++;
            return size - 1;
        }

        /** The first sale of a place that meets as many earlier ones on a day as it sends. */
        int firstTooMany(int place, int seats) {
            for (int sale = 0; sale < size; sale++) {
                if (sold[sale] == place && isTooMany(sale, seats)) {
                    return sale;
                }
            }
            return NONE;
        }

        /** If sales share a day, then they share the first day of one of them. */
        private boolean isTooMany(int sale, int seats) {
            for (int i = 0; i <= sale; i++) {
                if (sold[i] == sold[sale] && covers(sale, froms[i])
                        && countAhead(sale, froms[i]) >= seats) {
                    return true;
                }
            }
            return false;
        }

        private int countAhead(int sale, int day) {
            int ahead = 0;
            for (int i = 0; i < sale; i++) {
                if (sold[i] == sold[sale] && covers(i, day)) {
                    ahead++;
                }
            }
            return ahead;
        }

        private boolean covers(int sale, int day) {
            return froms[sale] <= day && day <= tos[sale];
        }
    }

    /** Members of knots, and the lot that is drawn from them. */
    private static final class Members {
        static final int MOST = 40;
        static final int DRAWN = 11;
        static final int STRIKES = 6;
        static final int JUDGES = 5;

        final int[] leans = new int[MOST];
        int size;
        final int[] inKnots = new int[KNOTS];
        private final int[] left = new int[MOST];
        private final boolean[] chosen = new boolean[MOST];

        int add(int knot, int lean) {
            leans[size] = lean;
            inKnots[knot]++;
            size++;
            return size - 1;
        }

        void draw(int seed) {
            for (int member = 0; member < size; member++) {
                left[member] = member;
                chosen[member] = false;
            }
            int still = size;
            int turn = seed;
            for (int i = 0; i < DRAWN && still > 0; i++) {
                turn = (turn * 61 + 17) % 9973;
                int taken = turn % still;
                chosen[left[taken]] = true;
                still--;
                for (int j = taken; j < still; j++) {
                    left[j] = left[j + 1];
                }
            }
        }

        void strike() {
            for (int i = 0; i < STRIKES; i++) {
                int worst = worstFor(i % 2);
                if (worst != NONE) {
                    chosen[worst] = false;
                }
            }
        }

        private int worstFor(int side) {
            int worst = NONE;
            int most = 0;
            for (int member = 0; member < size; member++) {
                int harm = side == 0 ? leans[member] : -leans[member];
                if (chosen[member] && (worst == NONE || harm > most)) {
                    worst = member;
                    most = harm;
                }
            }
            return worst;
        }

        int judge(int which) {
            int passed = 0;
            for (int member = 0; member < size; member++) {
                if (chosen[member]) {
                    if (passed == which) {
                        return member;
                    }
                    passed++;
                }
            }
            return NONE;
        }

        int verdict() {
            int sum = 0;
            for (int member = 0; member < size; member++) {
                sum += chosen[member] ? leans[member] : 0;
            }
            return sum > 0 ? 1 : 0;
        }
    }

    /** The lines of the bill, and seats and texts of the places under a set of them. */
    private static final class Bill {
        static final int TAKE = 0;
        static final int GIVE = 1;
        static final int TEXT = 2;
        static final int SEATS_GREATEST = 9;

        final int[] kinds = new int[LINES_MOST];
        final int[] amounts = new int[LINES_MOST];
        final int[] limits = new int[LINES_MOST];
        final int[] needs = new int[LINES_MOST];
        int size;
        final int[] seats = new int[PLACES_MOST];
        final int[] texts = new int[PLACES_MOST];
        private final int[] ranks = new int[PLACES_MOST];
        private final int[] kept = new int[PLACES_MOST];

        boolean has(int line) {
            return line >= 0 && line < size;
        }

        int all() {
            return (1 << size) - 1;
        }

        int allBut(int line) {
            return all() & ~(1 << line);
        }

        boolean hasOthers(int set) {
            return (set & ~all()) != 0;
        }

        int add(int kind, int amount, int limit, int hangs) {
            kinds[size] = kind;
            amounts[size] = amount;
            limits[size] = limit;
            needs[size] = hangs;
            size++;
            return size - 1;
        }

        /** A line needs lesser ones only, so one pass from the least on is enough. */
        int standing(int set) {
            int standing = 0;
            for (int line = 0; line < size; line++) {
                if ((set >> line & 1) == 1 && (needs[line] & ~standing) == 0) {
                    standing |= 1 << line;
                }
            }
            return standing;
        }

        /** The list must be drawn on that day, as known now. */
        void apply(int set, int day, Places places, Rolls rolls) {
            int standing = standing(set);
            for (int place = 0; place < places.size; place++) {
                seats[place] = places.seats[place];
                texts[place] = places.textOn(place, day);
                ranks[place] = rolls.rankOf(place);
            }
            for (int line = 0; line < size; line++) {
                for (int place = 0; place < places.size && (standing >> line & 1) == 1; place++) {
                    change(line, place, rolls.houses[place]);
                }
            }
        }

        private void change(int line, int place, int houses) {
            int limit = limits[line];
            if (kinds[line] == TAKE && ranks[place] < limit) {
                seats[place] = Math.max(0, seats[place] - amounts[line]);
            } else if (kinds[line] == GIVE && houses >= limit) {
                seats[place] = Math.min(SEATS_GREATEST, seats[place] + amounts[line]);
            } else if (kinds[line] == TEXT && seats[place] > 0) {
                texts[place] = limit;
            }
        }

        void keepSeats() {
            System.arraycopy(seats, 0, kept, 0, PLACES_MOST);
        }

        /** By how much the seats kept are more (or else less) than those of now, place by place. */
        int changedSeats(int count, boolean more) {
            int sum = 0;
            for (int place = 0; place < count && place < PLACES_MOST; place++) {
                int change = kept[place] - seats[place];
                sum += Math.max(0, more ? change : -change);
            }
            return sum;
        }
    }

    /** What knots want of lines, what they have read, and how they divide. */
    private static final class Knots {
        final int[][] wants = new int[KNOTS][LINES_MOST];
        final int[] bars = new int[KNOTS];
        final int[] reads = new int[KNOTS];
        final int[][] leasts = new int[KNOTS][NIGHTS];
        final int[][] mosts = new int[KNOTS][NIGHTS];

        /** What a knot wants of the lines of a set that it has read, together. */
        int wish(int knot, int set) {
            int sum = 0;
            for (int line = 0; line < LINES_MOST; line++) {
                if ((set & reads[knot] & 1 << line) != 0) {
                    sum += wants[knot][line];
                }
            }
            return sum;
        }

        /** How many of a knot are there: the fewest or the most, and never more than it has. */
        int present(int knot, int night, boolean fewest, Members members) {
            int told = fewest ? leasts[knot][night] : mosts[knot][night];
            return Math.min(told, members.inKnots[knot]);
        }

        /** Yes less no on a set that stands: at the worst for it, or else at the best. */
        int margin(int set, int night, boolean worst, Members members) {
            int sum = 0;
            for (int knot = 0; knot < KNOTS; knot++) {
                boolean yes = wish(knot, set) > bars[knot];
                int there = present(knot, night, yes == worst, members);
                sum += yes ? there : -there;
            }
            return sum;
        }

        /** The fewest lines to leave out so that the rest stand and carry a night. */
        int leastOut(int night, Bill bill, Members members) {
            int all = bill.all();
            int best = NONE;
            int fewest = LINES_MOST + 1;
            for (int out = 0; out <= all; out++) {
                int rest = all & ~out;
                if (Integer.bitCount(out) < fewest && bill.standing(rest) == rest
                        && margin(rest, night, true, members) > 0) {
                    best = out;
                    fewest = Integer.bitCount(out);
                }
            }
            return best;
        }

        /** Which of the told lines, each by itself, carry a night by the wants of those who read it. */
        int carriedAlone(int night, int size, Members members) {
            int carried = 0;
            for (int line = 0; line < size && line < LINES_MOST; line++) {
                int sum = 0;
                for (int knot = 0; knot < KNOTS; knot++) {
                    int want = (reads[knot] >> line & 1) == 1 ? wants[knot][line] : 0;
                    if (want > 0) {
                        sum += present(knot, night, true, members);
                    } else if (want < 0) {
                        sum -= present(knot, night, false, members);
                    }
                }
                carried |= sum > 0 ? 1 << line : 0;
            }
            return carried;
        }
    }

    /**
     * On which nights lines are brought. Of a night and the set brought ahead of it, the best that
     * the night and those behind it can add is one number: GREAT for each line, and for each line
     * the nights that it comes ahead of none, in a base in which a lesser line counts more than
     * all greater ones. The greatest such number is the first of the plans with the most lines.
     */
    private static final class Plan {
        static final int BASE = 6;
        /** BASE to the number of lines: more than all that their nights can count together. */
        static final int GREAT = 10077696;

        final int[] nightsOf = new int[LINES_MOST];
        private final int[] carried = new int[NIGHTS];
        /** Of each night the lines that any earlier one can carry. */
        private final int[] carriedAhead = new int[NIGHTS];
        private final int[][] values = new int[NIGHTS + 1][LINE_SETS];
        private final int[][] picks = new int[NIGHTS][LINE_SETS];
        private final int[] needs = new int[LINE_SETS];
        private final int[] ranks = new int[LINE_SETS];

        void make(int n, int c, Bill bill, Knots knots, Members members) {
            prepare(bill);
            int earlier = 0;
            for (int night = 0; night < n; night++) {
                carried[night] = knots.carriedAlone(night, bill.size, members);
                carriedAhead[night] = earlier;
                earlier |= carried[night];
            }
            Arrays.fill(values[n], 0);
            for (int night = n - 1; night >= 0; night--) {
                for (int ahead = 0; ahead <= carriedAhead[night]; ahead++) {
                    if ((ahead & ~carriedAhead[night]) == 0) {
                        pick(night, n - night, c, ahead, carried[night] & ~ahead);
                    }
                }
            }
            assign(n, bill.size);
        }

        /**
         * Of each set of lines what it needs, and how much it counts when it comes a night earlier;
         * both are 0 of no line, and stay so.
         */
        private void prepare(Bill bill) {
            int rank = GREAT;
            for (int line = 0; line < bill.size; line++) {
                rank /= BASE;
                for (int rest = 0; rest < 1 << line; rest++) {
                    needs[rest | 1 << line] = needs[rest] | bill.needs[line];
                    ranks[rest | 1 << line] = ranks[rest] + rank;
                }
            }
        }

        /** Looks at every set of the open lines, from all of them down to none. */
        private void pick(int night, int earlier, int c, int ahead, int open) {
            int best = values[night + 1][ahead];
            int picked = 0;
            for (int set = open; set > 0; set = set - 1 & open) {
                int lines = Integer.bitCount(set);
                if (lines <= c && (needs[set] & ~(ahead | set)) == 0) {
                    int value = values[night + 1][ahead | set] + lines * GREAT + earlier * ranks[set];
                    if (value > best) {
                        best = value;
                        picked = set;
                    }
                }
            }
            values[night][ahead] = best;
            picks[night][ahead] = picked;
        }

        private void assign(int n, int size) {
            Arrays.fill(nightsOf, NONE);
            int ahead = 0;
            for (int night = 0; night < n; night++) {
                int picked = picks[night][ahead];
                for (int line = 0; line < size; line++) {
                    if ((picked >> line & 1) == 1) {
                        nightsOf[line] = night;
                    }
                }
                ahead |= picked;
            }
        }

        int brought() {
            int lines = 0;
            for (int line = 0; line < LINES_MOST; line++) {
                if (nightsOf[line] != NONE) {
                    lines++;
                }
            }
            return lines;
        }
    }
}
