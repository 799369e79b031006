/** Where promises 13 to 15 end: the tape, texts and their faults, and the texts in force. */
public final class EdgesOfTextsTest {
    public static void main(String[] args) {
        promise13Bytes();
        promise13Room();
        promise13EachRoom();
        promise13Order();
        promise13AnyLong();
        promise13Above();
        promise14Digits();
        promise14DigitsOnTheRight();
        promise14GreatestNumbers();
        promise14Facts();
        promise14Deep();
        promise14DeepTogether();
        promise14TurnedOften();
        promise14DeepAgain();
        promise14FaultOfAByte();
        promise14FaultAtTheEnd();
        promise14FaultOfTheFifth();
        promise14Signs();
        promise14Longest();
        promise14NothingIsCounted();
        promise14TapeHasNone();
        promise14RoomOfTexts();
        promise14RoomOfPetitions();
        promise14RoomAheadOfFaults();
        promise14EachOfTwenty();
        promise15Place();
        promise15Text();
        promise15Day();
        promise15Room();
        promise15ToldLast();
        Due.end();
    }

    private static RottenSeats fresh() {
        return new RottenSeats();
    }

    private static void promise13Bytes() {
        Due.says("n (1 .. 8) bytes come to THE TAPE");
        Edge.range("bytes of a feed", 1, -4, 8, -6, (x, n) -> x.feed(n, 0));
        for (int n = 1; n <= 8; n++) {
            Due.due("feed(" + n + ")", fresh().feed(n, 0), n);
        }
    }

    private static void promise13Room() {
        Due.says("-6 (above 40, too)");
        RottenSeats x = fresh();
        for (int i = 1; i <= 5; i++) {
            Due.due("feed(8) no " + i, x.feed(8, 0), 8 * i);
        }
        for (int n = 1; n <= 9; n++) {
            Due.due("feed(" + n + ") to a full tape", x.feed(n, 0), -6);
        }
        Due.due("feed(0) to a full tape", x.feed(0, 0), -4);
        Due.due("feed(MAX) to a full tape", x.feed(Integer.MAX_VALUE, 0), -6);
        Due.due("count(10)", x.count(10), 40);
        Due.due("text of zeros", x.text(false), -20);
        Due.due("feed(8) to an empty tape", x.feed(8, 0), 8);
        Edge.refusedWhenFull("feed to a full tape", -6, y -> y.feed(1, 'h'));
        Edge.refusedWhenFull("feed of none to a full tape", -4, y -> y.feed(0, 'h'));
    }

    private static void promise13EachRoom() {
        Due.says("-6 (above 40, too)");
        for (int left = 1; left <= 8; left++) {
            RottenSeats x = fresh();
            for (int has = 0; has < 40 - left; has++) {
                x.feed(1, 0);
            }
            Due.due("feed(" + (left + 1) + ") with room for " + left, x.feed(left + 1, 0), -6);
            Due.due("count(10) with room for " + left, x.count(10), 40 - left);
            Due.due("feed(" + left + ") with room for it", x.feed(left, 0), 40);
        }
    }

    private static void promise13Order() {
        Due.says("bytes come to THE TAPE, the lowest first");
        String rule = "h=1|p=22";
        for (int n = 1; n <= 8; n++) {
            RottenSeats x = fresh();
            x.feed(n, World.rule(rule));
            // The fault of the first n bytes is at their end, or there is none.
            boolean whole = n == 3 || n >= 7;
            Due.due("text of the first " + n, x.text(false), whole ? 0 : -20 - n);
        }
        RottenSeats x = fresh();
        Due.due("feed(1)", x.feed(1, 'h'), 1);
        Due.due("feed(2)", x.feed(2, World.rule("=1")), 3);
        Due.due("text in two feeds", x.text(false), 0);
    }

    private static void promise13AnyLong() {
        Due.says("bytes come to THE TAPE, the lowest first");
        long[] any = {Long.MIN_VALUE, Long.MAX_VALUE, -1, 0, 1};
        for (long bytes : any) {
            RottenSeats x = fresh();
            Due.due("feed(8, " + bytes + ")", x.feed(8, bytes), 8);
            Due.due("text of " + bytes, x.text(false), -20);
            x.feed(3, World.rule("h=1"));
            Due.due("feed(8, " + bytes + ") behind h=1", x.feed(8, bytes), 11);
            Due.due("text of h=1 and " + bytes, x.text(false), -23);
        }
        // The byte that makes a long less than 0 is the eighth.
        RottenSeats x = fresh();
        Due.due("feed(8, h=1&p=1 and 128)", x.feed(8, World.rule("h=1&p=1") | Long.MIN_VALUE), 8);
        Due.due("text h=1&p=1 and 128", x.text(false), -27);
    }

    private static void promise13Above() {
        Due.says("n (1 .. 8) bytes come to THE TAPE");
        for (int n = 1; n < 8; n++) {
            RottenSeats x = fresh();
            String rule = "1=11111".substring(0, n);
            long above = -1L << 8 * n;
            Due.due("feed(" + n + ") and more above", x.feed(n, World.rule(rule) | above), n);
            Due.due("text of " + rule, x.text(false), n < 3 ? -20 - n : n < 7 ? 0 : -26);
        }
    }

    private static void good(String text) {
        Due.due("text " + text, Due.text(fresh(), text), 0);
    }

    private static void fault(String text, int at) {
        Due.due("text " + text, Due.text(fresh(), text), -20 - at);
    }

    private static void promise14Digits() {
        Due.says("a NUMBER (1 to 4 digits)");
        fault("=1", 0);
        good("1=h");
        good("12=h");
        good("123=h");
        good("1234=h");
        fault("12345=h", 4);
        fault("00000=h", 4);
        fault("0000000=h", 4);
    }

    private static void promise14DigitsOnTheRight() {
        Due.says("a NUMBER (1 to 4 digits)");
        fault("h=", 2);
        good("h=1");
        good("h=12");
        good("h=123");
        good("h=1234");
        fault("h=12345", 6);
        fault("h=00001", 6);
        fault("(h=12345)", 7);
        fault("h=12345&p=1", 6);
    }

    private static int holds(String text) {
        RottenSeats x = fresh();
        x.place(1, -1);
        x.person(0, -2000, 0, -1);
        x.right(0, 0, 0, 0, -2000);
        Due.due("text " + text, Due.text(x, text), 0);
        x.old(0, 0, 0);
        return x.may(0, 0, 2000, 0);
    }

    private static void promise14GreatestNumbers() {
        Due.says("a NUMBER (1 to 4 digits)");
        String[] so = {"0=0000", "9999=9999", "9999>9998", "9998<9999", "0<1", "0000<0001", "0010=10", "0100=100",
            "h=4001", "4001=d", "h>4000", "h<4002", "h<9999", "9999>d", "0=p", "y=0", "g<1"};
        String[] not = {"0=1", "9999=999", "9999<9999", "9999>9999", "0>0", "0<0", "0010=100", "h=4000", "h>4001",
            "h<4001", "h>9999", "4002<d"};
        for (String text : so) {
            Due.due(text, holds(text), 1);
        }
        for (String text : not) {
            Due.due(text, holds(text), 0);
        }
    }

    private static void promise14Facts() {
        Due.says("PETITIONS (10 at most): a TEXT of facts a .. d (each 1 or 0): as above, FACTS being a, b, c, d.");
        for (int c = 0; c < 256; c++) {
            boolean ofText = "hpgdy".indexOf(c) >= 0 || c >= '0' && c <= '9';
            boolean ofPetition = "abcd".indexOf(c) >= 0 || c >= '0' && c <= '9';
            String text = (char) c + "=1";
            boolean opens = c == '!' || c == '(';
            int at = opens ? -21 : -20;
            Due.due("text " + c + " =1", Due.text(fresh(), text), ofText ? 0 : at);
            Due.due("petition " + c + " =1", Due.petition(fresh(), text), ofPetition ? 0 : at);
        }
    }

    private static void promise14Deep() {
        Due.says("\"!\" and \"(\" together 4 deep at most.");
        good("!h=1");
        good("!!!!h=1");
        fault("!!!!!h=1", 4);
        good("(h=1)");
        good("((((h=1))))");
        fault("(((((h=1)))))", 4);
    }

    /** Every row of five of "!" and "(": four of them can stand, the fifth can not. */
    private static void promise14DeepTogether() {
        Due.says("\"!\" and \"(\" together 4 deep at most.");
        for (int row = 0; row < 32; row++) {
            String five = "";
            String ends = "";
            int inside = 0;
            for (int i = 0; i < 5; i++) {
                boolean bracket = (row >> i & 1) == 1;
                five += bracket ? '(' : '!';
                ends += bracket && i < 4 ? ")" : "";
                inside = bracket && i < 4 ? i + 1 : inside;
            }
            String four = five.substring(0, 4);
            good(four + "h=1" + ends);
            fault(five + "h=1" + ends, 4);
            // Behind a part the "!" ahead of it are done, what stands ahead of the last "(" is not.
            String more = "!!!!".substring(inside);
            good(four + "h=1|" + more + "h=1" + ends);
            fault(four + "h=1|" + more + "!h=1" + ends, 12 - inside);
        }
    }

    private static void promise14TurnedOften() {
        Due.says("PART: \"!\" PART, \"(\" RULE \")\"");
        String[] turned = {"", "!", "!!", "!!!", "!!!!", "!(!", "(!!", "!!(!", "(!(!"};
        int[] so = {1, 0, 1, 0, 1, 1, 1, 0, 1};
        for (int i = 0; i < turned.length; i++) {
            String ends = turned[i].replace("!", "").replace('(', ')');
            Due.due(turned[i] + "0=0", holds(turned[i] + "0=0" + ends), so[i]);
            Due.due(turned[i] + "0<0", holds(turned[i] + "0<0" + ends), 1 - so[i]);
            Due.due(turned[i] + "0<0|0<0", holds(turned[i] + "0<0" + ends + "|0<0"), 1 - so[i]);
            Due.due(turned[i] + "0=0&0=0", holds(turned[i] + "0=0" + ends + "&0=0"), so[i]);
        }
    }

    private static void promise14DeepAgain() {
        Due.says("\"!\" and \"(\" together 4 deep at most.");
        good("!!!!h=1&!!!!h=1|!!!!h=1");
        good("((((h=1))))|((((h=1))))");
        fault("((((h=1))))|(((((h=1)))))", 16);
        fault("!!!!h=1&!!!!!h=1", 12);
        fault("!!!!h=1|!!!!!h=1", 12);
        good("(((!h=1|!h=1&!h=1)))");
        fault("(((!h=1|!!h=1)))", 9);
        good("(((h=1)|(h=1))|!!(h=1))");
        fault("(((h=1)|(h=1))|!!((h=1)))", 18);
    }

    private static void promise14FaultOfAByte() {
        Due.says("FAULT: the place of the first byte that can not stand");
        fault("x", 0);
        fault("xx", 0);
        fault("hx1", 1);
        fault("h=x", 2);
        fault("h=1x", 3);
        fault("(h=1x)", 4);
        fault("(h=1)x", 5);
        fault("h=1&x", 4);
        fault("h=1|x", 4);
        fault("!x", 1);
        fault("(x", 1);
        fault("h=1 x=y (", 3);
        fault("h=1&h=1&h=1&h=1&h=1&h=1&h=1&h=1&h=1&h=1x", 39);
        fault("xxxxxxxxxxxxxxxxxxxxxxxxxxxxxxxxxxxxxxxx", 0);
    }

    private static void promise14FaultAtTheEnd() {
        Due.says("(the end, if something lacks; of a fifth \"!\" or \"(\" its own)");
        String[] lack = {"", "h", "h=", "1", "1234", "1234<", "h=1&", "h=1|", "!", "!!!!", "(", "((((", "(h", "(h=",
            "(h=1", "(h=1&", "((h=1)", "(h=1|(h=1)", "h=1|p=1&", "!(!(h=1)",
            "h=1&h=1&h=1&h=1&h=1&h=1&h=1&h=1&h=1&h=1&", "(h=1&h=1&h=1&h=1&h=1&h=1&h=1&h=1&h=1&p=1"};
        for (String text : lack) {
            fault(text, text.length());
            Due.due("petition " + text, Due.petition(fresh(), text.replace('h', 'a').replace('p', 'b')),
                    -20 - text.length());
        }
    }

    private static void promise14FaultOfTheFifth() {
        Due.says("of a fifth \"!\" or \"(\" its own");
        fault("!!!!!", 4);
        fault("!!!!(", 4);
        fault("((((!", 4);
        fault("(((((", 4);
        fault("((((((((((((((((((((((((((((((((((((((((", 4);
        fault("!!!!!!!!!!!!!!!!!!!!!!!!!!!!!!!!!!!!!!!!", 4);
        fault("h=1|!!!!!", 8);
        fault("(h=1)&((((!", 10);
        Due.due("petition !!(!(", Due.petition(fresh(), "!!(!("), -24);
    }

    private static void promise14Signs() {
        Due.says("UNIT and \"<\", \"=\" or \">\" and UNIT");
        for (int c = 0; c < 256; c++) {
            boolean digit = c >= '0' && c <= '9';
            boolean sign = "<=>".indexOf(c) >= 0;
            Due.due("text h " + c + " 1", Due.text(fresh(), "h" + (char) c + "1"), sign ? 0 : -21);
            int behindDigit = sign ? 0 : digit ? -23 : -21;
            Due.due("text 1 " + c + " 1", Due.text(fresh(), "1" + (char) c + "1"), behindDigit);
        }
    }

    private static void promise14Longest() {
        Due.says("TEXTS (40 bytes at most): a RULE: TERM { \"|\" TERM }");
        good("1=1&1=1&1=1&1=1&1=1&1=1&1=1&1=1&1=1&1=11");
        good("0=1|0=1|0=1|0=1|0=1|0=1|0=1|0=1|0=1|h=10");
        good("!0=0&!0=0|!0=0&!0=0|!0=0&!0=0|!0=0&!0=0");
        Due.due("ten terms, the last so", holds("0=1|0=1|0=1|0=1|0=1|0=1|0=1|0=1|0=1|1<10"), 1);
        Due.due("ten terms, none so", holds("0=1|0=1|0=1|0=1|0=1|0=1|0=1|0=1|0=1|1>10"), 0);
        Due.due("ten parts, all so", holds("0<1&0<1&0<1&0<1&0<1&0<1&0<1&0<1&0<1&1<10"), 1);
        Due.due("ten parts, the last not so", holds("0<1&0<1&0<1&0<1&0<1&0<1&0<1&0<1&0<1&1>10"), 0);
        Due.due("ten parts, the first not so", holds("0>1&0<1&0<1&0<1&0<1&0<1&0<1&0<1&0<1&1<10"), 0);
        Due.due("four deep", holds("!(!(0=1|0=1)&(0=0|(0=1&0=1|0=1)))|1<1000"), 1);
        Due.due("four deep, the other way", holds("!(!(0=1|0=1)&(0=0|(0=1&0=1|0=1)))|1>1000"), 0);
        Due.due("brackets to the right", holds("0=1|(0=1|(0=1|(0=1|(0=1|0=0))))"), 1);
        Due.due("nothing less than nothing", holds("0=0&(0<0|0=0)&(0<0|0=0|0<0)"), 1);
        Due.due("brackets to the left", holds("!(((0=1|0=0)&0=1)|0=1)"), 1);
    }

    private static void promise14NothingIsCounted() {
        Due.says("-20 less its place (nothing is counted)");
        RottenSeats x = fresh();
        for (int i = 0; i < 30; i++) {
            Due.due("fault no " + i, x.text(i % 2 == 0), -20);
            Due.due("fault no " + i + " of (", Due.text(x, "("), -21);
        }
        Due.due("refusals", World.refusals(x), 0);
        Due.due("count(5)", x.count(5), 0);
        Due.due("count(6)", x.count(6), 0);
        Due.due("the first text behind faults", Due.text(x, "h=1"), 0);
        Due.due("the first petition behind faults", Due.petition(x, "a=1"), 0);
    }

    private static void promise14TapeHasNone() {
        Due.says("(Refused: it stays; with a FAULT it has none, too.)");
        RottenSeats x = fresh();
        Due.feed(x, "h=1(");
        Due.due("a fault", x.text(false), -23);
        Due.due("count(10) behind it", x.count(10), 0);
        Due.feed(x, "a=1");
        Due.due("a petition", x.text(true), 0);
        Due.due("count(10) behind a petition", x.count(10), 0);
        Due.feed(x, "h=1");
        Due.due("a petition's fault", x.text(true), -20);
        Due.due("count(10) behind its fault", x.count(10), 0);
        Due.due("the text that is not there any more", x.text(false), -20);
        Due.feed(x, "h=1");
        Due.due("a text", x.text(false), 0);
        Due.due("count(10) behind a text", x.count(10), 0);
        Due.due("a text once more", x.text(false), -20);
    }

    private static void promise14RoomOfTexts() {
        Due.says("TEXTS have numbers from 0 on (20 at most).");
        RottenSeats x = fresh();
        for (int i = 0; i < 20; i++) {
            Due.due("text no " + i, Due.text(x, "h=" + i), i);
        }
        Due.due("one text more", Due.text(x, "h=1"), -6);
        Due.due("count(10): it stays", x.count(10), 3);
        Due.due("count(5)", x.count(5), 20);
        Due.due("it is no petition", x.text(true), -20);
        Due.due("a petition beside 20 texts", Due.petition(x, "a=1"), 0);
        Due.due("one text more again", Due.text(x, "p=1"), -6);
        Due.due("count(10): it stays again", x.count(10), 3);
    }

    private static void promise14RoomOfPetitions() {
        Due.says("PETITIONS (10 at most)");
        RottenSeats x = fresh();
        for (int i = 0; i < 10; i++) {
            Due.due("petition no " + i, Due.petition(x, "a=" + i % 2), i);
        }
        Due.due("one petition more", Due.petition(x, "d=1"), -6);
        Due.due("count(10): it stays", x.count(10), 3);
        Due.due("count(6)", x.count(6), 10);
        Due.due("it is a text", x.text(false), 0);
        Due.due("count(10) behind it", x.count(10), 0);
        Due.due("ends of the last", x.ends(9, 0), 8);
        Due.due("ends of one behind the last", x.ends(10, 0), -1);
        for (int i = 1; i < 20; i++) {
            Due.due("text no " + i + " beside 10 petitions", Due.text(x, "h=1"), i);
        }
    }

    private static void promise14RoomAheadOfFaults() {
        Due.says("-6 (20, 10; ahead of any FAULT)");
        RottenSeats x = World.full();
        Due.due("one text more, 40 zeros", x.text(false), -6);
        Due.due("one petition more, 40 zeros", x.text(true), -6);
        Due.due("count(10): they stay", x.count(10), 40);
        Edge.refusedWhenFull("one text more, with a fault", -6, y -> y.text(false));
        Edge.refusedWhenFull("one petition more, with a fault", -6, y -> y.text(true));
        RottenSeats y = fresh();
        for (int i = 0; i < 10; i++) {
            Due.petition(y, "a=1");
        }
        Due.due("one petition more, of nothing", y.text(true), -6);
        Due.due("a text of nothing", y.text(false), -20);
    }

    /** Each text is read from its own first byte on, whatever was read ahead of it. */
    private static void promise14EachOfTwenty() {
        Due.says("TEXTS have numbers from 0 on (20 at most).");
        RottenSeats x = fresh();
        x.place(1, -1);
        x.days(20);
        x.person(0, 0, 0, -1);
        for (int i = 0; i < 20; i++) {
            Due.due("text no " + i, Due.text(x, "!(d=1|d<1&d<1|d>" + (i + 10) + "&1=1)|d=0&!d=0"), i);
            x.old(0, i, i);
        }
        for (int i = 0; i < 20; i++) {
            // On day i, d is i + 1, which is not above i + 10.
            Due.due("text " + i + " holds on its day", x.may(0, 0, i, 0), i == 0 ? 0 : 1);
        }
        Due.due("the last on day 28", x.may(0, 0, 28, 0), 1);
        Due.due("the last on day 29", x.may(0, 0, 29, 0), 0);
        for (int i = 0; i < 10; i++) {
            String rule = "abcd".charAt(i % 4) + "=" + (i / 4 % 2) + "&(a=1|a=0|0=1)&!(b=2)&c<2";
            Due.due("petition no " + i, Due.petition(x, rule), i);
            Due.due("ends of petition " + i, x.ends(i, 0), 8);
            Due.due("witness of petition " + i, x.ends(i, 2), i % 4);
        }
    }

    private static void promise15Place() {
        Due.says("OLD of a PLACE from a DAY on: how many such there are in all. -1; -4; -6 (DAY 0 .. 2000; 40, too).");
        Edge.among("old of a place", 0, 2, -1, (x, v) -> x.old(v, 0, 0));
        Edge.refused("no place ahead of below", -1, x -> x.old(3, 0, -1));
        Edge.refused("no place ahead of above", -1, x -> x.old(-1, 0, 2001));
    }

    private static void promise15Text() {
        Due.says("OLD of a PLACE: the TEXT told for it, from a DAY on");
        Edge.among("old by a text", 0, 1, -1, (x, v) -> x.old(0, v, 0));
        Edge.refused("no text ahead of below", -1, x -> x.old(0, 2, -1));
        Edge.refused("no text ahead of above", -1, x -> x.old(0, -1, 2001));
        RottenSeats x = World.full();
        Due.due("the last text", x.under(0, 7, 2000, 1), 19);
    }

    private static void promise15Day() {
        Due.says("-6 (DAY 0 .. 2000; 40, too)");
        Edge.range("day of old", 0, -4, 2000, -6, (x, v) -> x.old(0, 0, v));
        RottenSeats x = fresh();
        x.place(1, -1);
        Due.text(x, "1=1");
        Due.due("old from the last day on", x.old(0, 0, 2000), 1);
        Due.due("text a day ahead of it", x.under(0, 0, 1999, 1), -9);
        Due.due("text on it", x.under(0, 0, 2000, 1), 0);
        Due.due("old from day 0 on", x.old(0, 0, 0), 2);
        Due.due("text on day 0", x.under(0, 0, 0, 1), 0);
    }

    private static void promise15Room() {
        Due.says("-6 (DAY 0 .. 2000; 40, too)");
        RottenSeats x = fresh();
        x.place(1, -1);
        x.place(1, -1);
        Due.text(x, "1=1");
        Due.text(x, "1=2");
        for (int i = 1; i <= 40; i++) {
            Due.due("old no " + i, x.old(i % 2, i == 40 ? 1 : 0, 0), i);
        }
        Due.due("one more", x.old(1, 1, 0), -6);
        Due.due("text by the last", x.under(0, 0, 0, 1), 1);
        Due.due("text by the one ahead of it", x.under(0, 1, 0, 1), 0);
        Edge.refusedWhenFull("one old more", -6, y -> y.old(15, 19, 2000));
        Edge.refusedWhenFull("one more, day below", -4, y -> y.old(15, 19, -1));
        Edge.refusedWhenFull("one more, no text", -1, y -> y.old(15, 20, -1));
    }

    private static void promise15ToldLast() {
        Due.says("of several the latest DAY not behind, of these told last");
        RottenSeats x = fresh();
        x.place(1, -1);
        for (int i = 0; i < 4; i++) {
            Due.text(x, "1=" + i);
        }
        x.old(0, 0, 0);
        x.old(0, 1, 0);
        Due.due("told last on day 0", x.under(0, 0, 0, 1), 1);
        x.old(0, 2, 2000);
        x.old(0, 3, 1999);
        Due.due("the latest not behind 1998", x.under(0, 0, 1998, 1), 1);
        Due.due("the latest not behind 1999", x.under(0, 0, 1999, 1), 3);
        Due.due("the latest not behind 2000", x.under(0, 0, 2000, 1), 2);
    }
}
