/** A rotten place and a great one, under the old texts and under a bill of two lines. */
public final class Example {
    public static void main(String[] args) {
        RottenSeats x = new RottenSeats();
        int sarum = x.place(2, 0);              // sends 2, and its patron is patron 0
        int leeds = x.place(0, -1);             // sends nobody, and has no patron
        x.roll(sarum, 0, 0, 7, 2);              // 7 houses on day 0, wrong by 2 at most
        x.roll(leeds, 0, 0, 900, 50);
        say("Sarum's rank, as known on day 0", x.list(sarum, 0, 0, 1));

        int hearths = text(x, "h>0");           // who has a hearth may vote
        x.old(sarum, hearths, 0);
        int ann = x.person(sarum, -400, 1, 0);  // here for 400 days; her side is 1, her debt to patron 0
        x.right(ann, sarum, 0, 0, -10);         // a hearth (kind 0) for 10 days
        say("Ann may vote in Sarum", x.may(ann, sarum, 0, 0));
        say("of those in Sarum, without a right a year ago", x.furrows(sarum, 0, 0));
        say("votes for side 0, her patron's", x.elect(0, sarum, 0, 0));
        say("a seat of Sarum, 7 years left", x.worth(sarum, 7, 0));

        int take = x.line(0, 2, 1, 0);          // takes 2 from the place whose rank is below 1
        int give = x.line(1, 1, 500, 1 << take);    // gives 1 for 500 houses; hangs on the line ahead
        int both = 1 << take | 1 << give;       // a set of lines: a bit for each
        say("seats of Leeds under both", x.under(both, leeds, 0, 0));
        say("lines that stand without the first", x.stands(1 << give));

        x.member(0, -3);                        // of knot 0, with lean -3
        x.member(1, 5);
        x.read(0, both);
        x.want(0, take, 4);
        x.there(0, 0, 1, 1);                    // of knot 0 one is there on night 0
        x.there(1, 0, 0, 1);                    // of knot 1 one may be there
        say("yes less no on both, at the least", x.divide(both, 0, 0));
        say("the same, at the most", x.divide(both, 0, 1));

        say("a text that lacks something at 2", text(x, "h>"));
        say("a place that sends 3", x.place(3, 0));
        say("what knot 8 wants", x.want(8, take, 1));
        say("refusals of -6 so far", x.count(16));
    }

    /** Feeds a text to the tape, eight bytes a call at most, the first byte the lowest. */
    private static int text(RottenSeats x, String rule) {
        for (int at = 0; at < rule.length(); at += 8) {
            int n = Math.min(8, rule.length() - at);
            long bytes = 0;
            for (int i = 0; i < n; i++) {
                bytes |= (long) rule.charAt(at + i) << 8 * i;
            }
            x.feed(n, bytes);
        }
        return x.text(false);
    }

    private static void say(String what, int answer) {
        System.out.println(what + ": " + answer);
    }
}
