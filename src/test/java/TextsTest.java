/** Promises 13 to 15: the tape, texts and their faults, and the texts in force. */
public final class TextsTest {
    public static void main(String[] args) {
        promise13Feed();
        promise14Numbers();
        promise14Faults();
        promise14FaultsOfDepth();
        promise14FaultsOfPetitions();
        promise14EveryByte();
        promise14Meaning();
        promise14Room();
        promise15Old();
        promise15OldRoom();
        Due.end();
    }

    private static void promise13Feed() {
        RottenSeats x = new RottenSeats();
        Due.due("feed(0)", x.feed(0, 0), -4);
        Due.due("feed(-1)", x.feed(-1, 0), -4);
        Due.due("feed(MIN)", x.feed(Integer.MIN_VALUE, 0), -4);
        Due.due("feed(9)", x.feed(9, 0), -6);
        Due.due("feed(MAX)", x.feed(Integer.MAX_VALUE, 0), -6);
        Due.due("feed(8)", x.feed(8, -1L), 8);
        for (int i = 2; i <= 4; i++) {
            Due.due("feed(8)", x.feed(8, 0), 8 * i);
        }
        Due.due("feed(1)", x.feed(1, 0), 33);
        Due.due("feed(8) beyond 40", x.feed(8, 0), -6);
        Due.due("count(10)", x.count(10), 33);
        Due.due("feed(7)", x.feed(7, 0), 40);
        Due.due("feed(1) beyond 40", x.feed(1, 0), -6);
        Due.due("feed(0) when full", x.feed(0, 0), -4);
        Due.due("text of these", x.text(false), -20);
        Due.due("count(10)", x.count(10), 0);
        // The lowest byte comes first, and bytes above n do not come.
        Due.due("feed(2, ..)", x.feed(2, '1' | '=' << 8 | '9' << 16), 2);
        Due.due("feed(1, ..)", x.feed(1, '1' | '9' << 8), 3);
        Due.due("text", x.text(false), 0);
        Due.due("feed(8, 1=1&2=2!)", x.feed(8, 0x21323D3226313D31L), 8);
        Due.due("text 1=1&2=2!", x.text(false), -27);
        Due.due("a byte above 127", Due.text(x, "h=1\u00ff"), -23);
        Due.refusals("after feed", x, 0, 0, 0, 4, 0, 4);
    }

    private static void promise14Numbers() {
        RottenSeats x = new RottenSeats();
        Due.due("the first text", Due.text(x, "h=1"), 0);
        Due.due("count(10) behind a text", x.count(10), 0);
        Due.due("the first petition", Due.petition(x, "a=1"), 0);
        Due.due("a fault", Due.text(x, "h"), -21);
        Due.due("count(10) behind a fault", x.count(10), 0);
        Due.due("the next text", Due.text(x, "9999>0"), 1);
        Due.due("the next petition", Due.petition(x, "a=d"), 1);
        Due.due("count(5)", x.count(5), 2);
        Due.due("count(6)", x.count(6), 2);
        Due.refusals("after faults", x, 0, 0, 0, 0, 0, 0);
    }

    private static void good(RottenSeats x, String text) {
        int next = x.count(5);
        Due.due("text " + text, Due.text(x, text), next);
    }

    private static void fault(RottenSeats x, String text, int at) {
        Due.due("text " + text, Due.text(x, text), -20 - at);
    }

    private static void promise14Faults() {
        RottenSeats x = new RottenSeats();
        fault(x, "", 0);
        fault(x, "h", 1);
        fault(x, "h=", 2);
        fault(x, "=1", 0);
        fault(x, "h==1", 2);
        fault(x, "h=1=1", 3);
        fault(x, "hh=1", 1);
        fault(x, "h=1h", 3);
        fault(x, "h1=1", 1);
        fault(x, "1h=1", 1);
        fault(x, "h=1&", 4);
        fault(x, "h=1|", 4);
        fault(x, "&h=1", 0);
        fault(x, "h=1||h=1", 4);
        fault(x, "h=1&|h=1", 4);
        fault(x, "h=1!h=1", 3);
        fault(x, "h=1(h=1)", 3);
        fault(x, "h=!1", 2);
        fault(x, "h=(1)", 2);
        fault(x, "(h)=1", 2);
        fault(x, "!", 1);
        fault(x, "(", 1);
        fault(x, "()", 1);
        fault(x, "(h=1", 4);
        fault(x, "(h=1|", 5);
        fault(x, "h=1)", 3);
        fault(x, "(h=1))", 5);
        fault(x, "12345=1", 4);
        fault(x, "h=12345", 6);
        fault(x, "a=1", 0);
        fault(x, "h=b", 2);
        fault(x, "H=1", 0);
        fault(x, "h =1", 1);
        fault(x, " h=1", 0);
        fault(x, "h=1 ", 3);
        fault(x, "h=1\0", 3);
        fault(x, "h=-1", 2);
        fault(x, "h=1&h=1&h=1&h=1&h=1&h=1&h=1&h=1&h=1&h=1&", 40);
        good(x, "h=1&h=1&h=1&h=1&h=1&h=1&h=1&h=1&h=1&1=10");
        good(x, "0=0000");
        good(x, "h<p|g=d&y>1234|!(h=1)");
    }

    private static void promise14FaultsOfDepth() {
        RottenSeats x = new RottenSeats();
        good(x, "!!!!h=1");
        fault(x, "!!!!!h=1", 4);
        good(x, "((((h=1))))");
        fault(x, "(((((h=1)))))", 4);
        good(x, "!(!(h=1))");
        good(x, "(!!(h=1))");
        fault(x, "!(!(!h=1))", 4);
        fault(x, "!(!((h=1)))", 4);
        fault(x, "(h=1|(h=1|(h=1|(h=1|!h=1))))", 20);
        fault(x, "!!!!(h=1)", 4);
        good(x, "!h=1&!h=1&!h=1&!h=1&!h=1|!h=1");
        good(x, "(h=1)|(h=1)|(h=1)&(h=1)&(h=1)");
        good(x, "((h=1)|(h=1))&(((h=1)))&!!!!h=1");
        fault(x, "(((h=1)))&((((!h=1))))", 14);
        fault(x, "!!!!)", 4);
        fault(x, "((((", 4);
        fault(x, "!!!!", 4);
    }

    private static void promise14FaultsOfPetitions() {
        RottenSeats x = new RottenSeats();
        Due.due("petition a=b|c=d", Due.petition(x, "a=b|c=d"), 0);
        Due.due("petition h=1", Due.petition(x, "h=1"), -20);
        Due.due("petition d>y", Due.petition(x, "d>y"), -22);
        Due.due("petition e=1", Due.petition(x, "e=1"), -20);
        Due.due("petition of nothing", x.text(true), -20);
        Due.due("petition a=1(", Due.petition(x, "a=1("), -23);
        Due.due("petition !!!!!a=1", Due.petition(x, "!!!!!a=1"), -24);
        Due.due("text d=1", Due.text(x, "d=1"), 0);
        Due.due("text c=1", Due.text(x, "c=1"), -20);
        Due.due("count(5)", x.count(5), 1);
        Due.due("count(6)", x.count(6), 1);
    }

    /** Which single bytes can stand at the start, behind a unit, behind a sign, behind a part. */
    private static void promise14EveryByte() {
        everyByte("", "!(0123456789hpgdy", "");
        everyByte("h", "<=>", "1");
        everyByte("1", "0123456789<=>", "=1");
        everyByte("h=", "0123456789hpgdy", "");
        everyByte("h=p", "&|", "h=1");
        everyByte("h=1", "&|0123456789", "");
        everyByte("(h=p", "&|)", "");
        everyByte("(h=1)", "&|", "h=1");
    }

    /** A byte that can stand is not the fault; one that can not is. */
    private static void everyByte(String ahead, String can, String behind) {
        int at = ahead.length();
        for (int b = 0; b < 256; b++) {
            int answer = Due.text(new RottenSeats(), ahead + (char) b + behind);
            boolean stands = answer != -20 - at;
            Due.due("byte " + b + " behind " + ahead, stands ? 1 : 0, can.indexOf(b) >= 0 ? 1 : 0);
        }
    }

    private static int holds(String text) {
        RottenSeats x = new RottenSeats();
        x.place(1, 0);
        x.days(500);
        x.person(0, 491, 0, -1);
        x.right(0, 0, 0, 0, 494);
        x.right(0, 0, 1, 5, 494);
        x.right(0, 0, 2, 3, 494);
        // On day 500: h 7, p 5, g 3, d 10, y 1
        Due.due("text " + text, Due.text(x, text), 0);
        x.old(0, 0, 0);
        return x.may(0, 0, 500, 0);
    }

    private static void promise14Meaning() {
        String[] so = {"h=7", "p=5", "g=3", "d=10", "y=1", "h>6", "h<8", "6<h", "8>h", "007=h", "d>h",
            "p<h", "h=h", "9999>9998", "0=0", "0010=d", "!h=6", "!!h=7", "!(h=6)", "(h=7)",
            "h=6|h=7", "h=7|h=6", "h=7&p=5", "h=7|h=6&h=6", "h=6&h=6|h=7", "(h=6|h=7)&h=7",
            "!h=6&h=7", "!(h=6&h=7)", "!h=7|h=7", "h=6|h=6|h=7", "h=6&h=7|h=7&h=7", "!(h=6|h=5)&y>0",
            "h=7&(h=6|!(h=6))", "!(!(h=7&p=5))", "y=1|y=1&y=0", "1=1&!0<0", "!0<0", "1=1|0<0"};
        String[] not = {"h=6", "h>7", "h<7", "7<h", "7>h", "h>d", "h<h", "h>h", "!h=7", "!!h=6", "!(h=7)",
            "h=7&h=6", "h=6&h=7", "h=6|h=5", "(h=7|h=6)&h=6", "h=6&(h=6|h=7)", "!h=7&h=7", "!(h=7|h=6)",
            "!(h=6|h=7)", "!!!h=7", "h=7&h=7&h=6", "(h=6)|(h=6)", "!h=7|h=6", "1000=1", "12=21", "9998>9999",
            "(y=1|y=1)&y=0", "!(!(h=7&p=4))", "0<0", "0<0|0<0", "1=1&0<0", "!(1=1|0<0)"};
        for (String text : so) {
            Due.due(text, holds(text), 1);
        }
        for (String text : not) {
            Due.due(text, holds(text), 0);
        }
    }

    private static void promise14Room() {
        RottenSeats x = new RottenSeats();
        for (int i = 0; i < 20; i++) {
            Due.due("text no " + i, Due.text(x, "h=" + i), i);
        }
        for (int i = 0; i < 10; i++) {
            Due.due("petition no " + i, Due.petition(x, "a=" + i), i);
        }
        Due.due("the 21st text", Due.text(x, "h=1"), -6);
        Due.due("count(10): it stays", x.count(10), 3);
        Due.due("the 21st text with a fault", Due.text(x, "("), -6);
        Due.due("the 11th petition", x.text(true), -6);
        Due.due("count(10): it stays", x.count(10), 4);
        Due.due("count(5)", x.count(5), 20);
        Due.due("count(6)", x.count(6), 10);
        Due.refusals("after text", x, 0, 0, 0, 0, 0, 3);
        for (int i = 0; i < 10; i++) {
            Due.due("ends(" + i + ", 0)", x.ends(i, 0), i < 2 ? 8 : 0);
        }
        RottenSeats y = new RottenSeats();
        for (int i = 0; i < 20; i++) {
            Due.text(y, "h=1");
        }
        Due.due("a petition beside 20 texts", Due.petition(y, "a=1"), 0);
    }

    private static void promise15Old() {
        RottenSeats x = new RottenSeats();
        Due.due("old of no place", x.old(0, 0, -1), -1);
        x.place(1, 0);
        x.place(1, 0);
        Due.due("old of no text", x.old(0, 0, -1), -1);
        Due.petition(x, "a=1");
        Due.due("old of a petition", x.old(0, 0, 0), -1);
        Due.text(x, "1=1");
        Due.text(x, "1=2");
        Due.due("old(0, 0, 2000)", x.old(0, 0, 2000), 1);
        Due.due("old(1, 1, 0)", x.old(1, 1, 0), 2);
        Due.due("old(2, ..)", x.old(2, 0, -1), -1);
        Due.due("old(-1, ..)", x.old(-1, 0, 2001), -1);
        Due.due("old(0, 2, ..)", x.old(0, 2, -1), -1);
        Due.due("old(0, -1, ..)", x.old(0, -1, 2001), -1);
        Due.due("old day -1", x.old(0, 0, -1), -4);
        Due.due("old day 2001", x.old(0, 0, 2001), -6);
        Due.due("under(0, 0, 1999, 1)", x.under(0, 0, 1999, 1), -9);
        Due.due("under(0, 0, 2000, 1)", x.under(0, 0, 2000, 1), 0);
        Due.due("under(0, 1, 2000, 1)", x.under(0, 1, 2000, 1), 1);
        Due.due("old(0, 1, 10)", x.old(0, 1, 10), 3);
        Due.due("under(0, 0, 9, 1)", x.under(0, 0, 9, 1), -9);
        Due.due("under(0, 0, 10, 1)", x.under(0, 0, 10, 1), 1);
        Due.due("under(0, 0, 2000, 1): the latest", x.under(0, 0, 2000, 1), 0);
        Due.due("old(0, 0, 10)", x.old(0, 0, 10), 4);
        Due.due("under(0, 0, 10, 1): told last", x.under(0, 0, 10, 1), 0);
        Due.refusals("after old", x, 7, 0, 0, 1, 0, 1);
    }

    private static void promise15OldRoom() {
        RottenSeats x = new RottenSeats();
        x.place(1, 0);
        x.place(1, 0);
        Due.text(x, "1=1");
        for (int i = 1; i <= 40; i++) {
            Due.due("old no " + i, x.old(i % 2, 0, i), i);
        }
        Due.due("old no 41", x.old(0, 0, 0), -6);
        Due.due("old no 41, below", x.old(0, 0, -1), -4);
        Due.due("old no 41, no text", x.old(0, 1, -1), -1);
    }
}
