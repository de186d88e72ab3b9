/** Edges of THE TEXT: what THE TAPE takes, where a TOKEN ends, what a LINE may hold, which FAULT is met, and where. */
public final class TextEdgeTest extends Checks {
    private static final String ONE = "tangle tall 9;person a tall 1;person b tall 1";
    private static final String HELD = ONE + ";hold l a left b left";

    public static void main(String[] args) {
        room();
        stays();
        emptied();
        everyByte();
        words();
        wholes();
        lines();
        heights();
        many();
        asMuchAsFits();
        keptWords();
        namesAgain();
        namesNotTold();
        namesAlike();
        hands();
        byOnce();
        places();
        forms();
        firstFromTheLeft();
        lacks();
        whereAndFault();
        end();
    }

    private static void good(String what, String text, int rings) {
        HandKnot k = new HandKnot();
        due(3, what, read(k, text), rings);
        due(50, what + ", trouble", k.trouble(), 0);
        due(4, what + ", fault", k.fault(), 0);
        due(5, what + ", where", k.where(), -1);
    }

    /** A FAULT in what comes behind a text without any; the place is counted from where that text ends. */
    private static void behind(String text, String more, int fault, int where) {
        faulty(text + more, fault, text.length() + where);
    }

    // ---- THE TAPE has 900 bytes

    private static void room() {
        HandKnot k = new HandKnot();
        due(49, "a new tape", k.size(11), 0);
        due(1, "no tangle", k.loose(), -1);
        feed(k, SLIP + " ".repeat(880 - SLIP.length()));
        due(2, "880 bytes", k.size(11), 880);
        due(2, "room for just twenty more", k.feed(0x20202020, 0x20202020, 0x20202020, 0x20202020, 0x20202020), 900);
        due(2, "there would be more than 900", k.feed(0x3b3b3b3b, 0x3b3b3b3b, 0x3b3b3b3b, 0x3b3b3b3b, 0x3b3b3b3b), -1);
        due(2, "none comes", k.size(11), 900);
        due(2, "refused again", k.feed(0, 0, 0, 0, 0), -1);
        due(50, "by no number: that of loose() stays", k.trouble(), 1);
        k.tangle(901);
        due(2, "and once again", k.feed(0, 0, 0, 0, 0), -1);
        due(50, "that of tangle() stays", k.trouble(), 2);
        due(3, "all 900, and none of those refused", k.tangle(900), 1);
        due(3, "the tape is empty then", k.size(11), 0);
        due(2, "from the first byte on", k.feed(0, 0, 0, 0, 0), 20);
    }

    private static void stays() {
        HandKnot k = of(NEST);
        feed(k, SLIP);
        int filled = k.size(11);
        for (int n : new int[] {-1, filled + 1, 901, Integer.MIN_VALUE, Integer.MAX_VALUE}) {
            refused(3, n + " of " + filled + " bytes", k, k.tangle(n), -1, 2);
            due(5, "refused by 2: nowhere", k.where(), -1);
            due(4, "the fault of the one ahead", k.fault(), 0);
            due(3, "the tape stays, of " + n, k.size(11), filled);
            due(3, "the tangle stays, of " + n, k.sign(1), 1);
        }
        due(3, "all that there are", k.tangle(filled), 1);
        due(3, "the bytes were as fed", k.sign(1), 1);
        due(3, "as fed: a slip", k.may(101), 1);
    }

    private static void emptied() {
        HandKnot k = of(NEST);
        feed(k, SLIP);
        refused(3, "none of the bytes", k, k.tangle(0), -1, 4);
        due(4, "nothing told: the end", k.fault(), 1);
        due(5, "nothing told: at 0", k.where(), 0);
        due(3, "a fault empties the tape", k.size(11), 0);
        refused(3, "nothing is left of it", k, k.tangle(1), -1, 2);
        due(4, "the fault stays", k.fault(), 1);
        due(3, "the tangle stays", k.may(0), 1);
        due(3, "and is whole", k.left(), 2);
        feed(k, SLIP);
        due(3, "only the first n bytes", k.tangle(TWO.length()), 1);
        due(3, "no crossing behind them", k.size(3), 0);
        due(3, "the others are gone too", k.size(11), 0);
    }

    /** Which bytes are letters, digits, a semicolon, a blank, and which begin no TOKEN. */
    private static void everyByte() {
        for (int b = 0; b < 256; b++) {
            char c = (char) b;
            boolean letter = b >= 97 && b <= 122;
            boolean digit = b >= 48 && b <= 57;
            boolean blank = b == 32;
            faulty("tangle tall 9;person " + c, 1, letter || blank ? 22 : 21);
            faulty("tangle tall " + c, digit ? 6 : 1, digit || blank ? 13 : 12);
            faulty("tangle tall 9" + c, blank || digit ? 6 : 1, blank || digit || b == 59 ? 14 : 13);
            faulty("tangle tall 9" + c + "person", 1, b == 59 ? 20 : blank || digit ? 14 : 13);
        }
    }

    private static void words() {
        String eight = "tangle tall 9;person aaaaaaaa tall 1;person aaaaaaab tall 1;"
            + "hold aaaaaaac aaaaaaaa left aaaaaaab left;hold zzzzzzzz aaaaaaaa right aaaaaaab right";
        good("words of eight letters, unlike in the last", eight, 1);
        good("words of one letter, and of two like it", eight.replace("aaaaaaaa", "a").replace("aaaaaaab", "aa"), 1);
        faulty("tangle tall 9;person aaaaaaaaa tall 1", 1, 21);
        behind(ONE, ";hold llllllll", 1, 14);
        behind(ONE, ";hold lllllllll", 1, 6);
        behind(ONE, ";hold l aaaaaaaaa", 1, 8);
        behind(ONE, ";hold l aaaaaaaa", 2, 8);
        faulty("tangle tall 9;personal", 1, 14);
        faulty("tangle tall 9;personals", 1, 14);
        faulty("tangl", 1, 0);
        faulty("tanglea", 1, 0);
        faulty("tangle tal 9", 1, 7);
        faulty("tangle talla 9", 1, 7);
        good("no blank where a word ends by itself", HELD.replace("tall ", "tall").replace("; ", ";") + ";hold m a right b right", 1);
    }

    private static void wholes() {
        String rest = ";person a tall 1;person b tall 1;hold l a left b left;hold m a right b right";
        good("one digit", "tangle tall 9" + rest, 1);
        good("three digits", "tangle tall 099" + rest, 1);
        good("three noughts", "tangle tall 000" + rest, 1);
        faulty("tangle tall 0009" + rest, 1, 12);
        faulty("tangle tall 999" + rest, 4, 12);
        faulty("tangle tall 9 9" + rest, 1, 14);
        faulty("tangle tall 9;person a tall 0001", 1, 28);
        behind(HELD, ";cross l 001 over l 009 plus;cross l 0001", 1, 37);
    }

    // ---- LINES

    private static void lines() {
        faulty(";tangle tall 9", 1, 0);
        faulty("tangle tall 9;", 1, 14);
        faulty("tangle tall 9;;person a tall 1", 1, 14);
        faulty("tangle tall 9 ; ", 1, 16);
        faulty("tangle", 1, 6);
        faulty("tangle ", 1, 7);
        faulty("tangle tall", 1, 11);
        faulty("tangle 9", 1, 7);
        faulty("tangle once tall 9", 1, 7);
        faulty("tangle tall 9 once once", 1, 19);
        faulty("tangle tall 9 twice", 1, 14);
        faulty("tangle tall 9 once;person a tall 1 once", 1, 35);
        good("once", "tangle tall 9 once" + ringOf(3, "").substring(14), 1);
        due(49, "once is told", of("tangle tall 9 once" + ringOf(3, "").substring(14)).size(6), 1);
        due(49, "once isn't told", of(ringOf(3, "")).size(6), 0);
        good("a line of another sort ahead of the last person", ONE
            + ";hold l a left b left;cross l 1 over l 2 plus;person c tall 1;hold m a right c left;hold n b right c right", 1);
        faulty(ONE + ";tangle", 3, ONE.length() + 1);
        faulty(ONE + ";tangle tall 9", 3, ONE.length() + 1);
    }

    private static void heights() {
        String rest = ";person b tall 1;hold l a left b left;hold m a right b right";
        for (int tall : new int[] {0, 1, 98, 99}) {
            due(49, "tall " + tall, of("tangle tall " + tall + ";person a tall 1" + rest).size(5), tall);
        }
        for (int tall : new int[] {100, 101, 999}) faulty("tangle tall " + tall, 4, 12);
        for (int tall : new int[] {1, 2, 98, 99}) good("a person tall " + tall, "tangle tall 9;person a tall " + tall + rest, 1);
        for (int tall : new int[] {0, 100, 101, 999}) faulty("tangle tall 9;person a tall " + tall + rest, 4, 28);
    }

    private static void many() {
        String seven = "tangle tall 9" + times(7, ";person p# tall 9");
        String eight = "tangle tall 9" + times(8, ";person p# tall 9");
        behind(seven, ";person z tall 1;hold", 1, 21);
        behind(eight, ";person z tall 1", 5, 1);
        behind(eight, ";  person", 5, 3);
        behind(eight, ";person pa tall 0", 5, 1);
        due(49, "eight persons", of(ringOf(8, "")).size(0), 8);
        String links = ringOf(8, "");
        due(49, "eight links", of(links).size(1), 8);
        behind(links, ";hold z pa left pb right", 5, 1);
        behind(links, ";hold", 5, 1);
        String crosses = links + times(7, ";cross h# 1 over h# 9 plus");
        due(49, "seven crossings", of(crosses).size(3), 7);
        behind(links + times(6, ";cross h# 1 over h# 9 plus"), ";cross hh 1 over hh 9 plus;hold", 5, 27);
        behind(crosses, ";cross hh 1 over hh 9 plus", 5, 1);
        behind(crosses, ";cross none 0", 5, 1);
    }

    private static void asMuchAsFits() {
        StringBuilder s = new StringBuilder("tangle tall 99");
        for (char p = 'a'; p <= 'h'; p++) s.append(";person manyname tall 99".replace("name", "nam" + p));
        for (char p = 'a'; p <= 'h'; p++) {
            String two = " manynam" + p + " right manynam" + (char) ('a' + (p - 'a' + 1) % 8) + " left";
            s.append(";hold linknam").append(p).append(two);
        }
        for (char p = 'a'; p <= 'g'; p++) s.append(";cross linknam" + p + " 9 over linknam" + (char) (p + 1) + " 1 minus");
        String text = " ".repeat(900 - s.length()) + s;
        HandKnot k = new HandKnot();
        due(3, "the longest text, the last byte of 900 its own", read(k, text), 1);
        int[] sizes = {8, 8, 1, 7, 14, 99};
        for (int i = 0; i < sizes.length; i++) due(49, "as much as fits: size " + i, k.size(i), sizes[i]);
        due(8, "the last of eight", k.member(0, 7), 1);
        refused(8, "no ninth", k, k.member(0, 8), -1, 1);
        due(11, "the last standing of fourteen", k.stands(13), 1);
        refused(11, "no fifteenth", k, k.stands(14), -1, 1);
        due(13, "the last crossing of seven", k.sign(6), -1);
        refused(13, "no eighth", k, k.sign(7), -100, 1);
        due(10, "the last link of eight", k.along(7), 0);
        refused(10, "no ninth link", k, k.along(8), -1, 1);
        due(32, "the last person of eight sees", k.sees(7), 32 + 64);
        refused(32, "a ninth doesn't", k, k.sees(8), -1, 1);
    }

    // ---- NAMES

    /** WORDS but tangle, person, hold, cross. */
    private static void keptWords() {
        for (String kept : new String[] {"tangle", "person", "hold", "cross"}) {
            faulty("tangle tall 9;person " + kept + " tall 1", 1, 21);
            behind(ONE, ";hold " + kept + " a left b left", 1, 6);
            behind(ONE, ";hold l " + kept + " left b left", 1, 8);
            behind(ONE, ";hold l a left " + kept + " left", 1, 15);
            behind(HELD, ";cross " + kept + " 1 over l 2 plus", 1, 7);
            behind(HELD, ";cross l 1 over " + kept + " 2 plus", 1, 16);
        }
        for (String free : new String[] {"tall", "once", "left", "right", "over", "plus", "minus", "persons", "cros"}) {
            String person = "tangle tall 9 once;person " + free + " tall 1;person b tall 1;person c tall 1;hold l " + free
                + " left b left;hold m b right c left;hold n c right " + free + " right";
            good(free + " as a person's name", person, 1);
            good(free + " as a link's name", (ringOf(2, "") + ";cross ha 1 over hb 2 plus").replace("ha", free), 1);
        }
    }

    /** Each told once. */
    private static void namesAgain() {
        faulty(ONE + ";person a tall 1", 3, ONE.length() + 8);
        behind(HELD, ";person l tall 1", 3, 8);
        behind(ONE, ";hold b a left b left", 3, 6);
        behind(HELD, ";hold l a right b right", 3, 6);
        behind(HELD, ";person a", 3, 8);
    }

    /** Ahead of its use; and of the sort that must stand there. */
    private static void namesNotTold() {
        behind(ONE, ";hold l c left b left;person c tall 1", 2, 8);
        behind(ONE, ";hold l a left c left;person c tall 1", 2, 15);
        behind(ONE, ";hold l l left b left", 2, 8);
        behind(HELD, ";hold m l right b right", 2, 8);
        behind(HELD, ";hold m a right l right", 2, 16);
        behind(HELD, ";cross m 1 over l 2 plus;hold m a right b right", 2, 7);
        behind(HELD, ";cross l 1 over m 2 plus;hold m a right b right", 2, 16);
        behind(HELD, ";cross a 1 over l 2 plus", 2, 7);
        behind(HELD, ";cross l 1 over b 2 plus", 2, 16);
        behind(HELD, ";cross l 1 over over 2 plus", 2, 16);
    }

    /** Unlike NAMES, however much alike: neither is told again, and neither is told by the other. */
    private static void namesAlike() {
        for (char c = 'a'; c <= 'z'; c++) {
            for (char d = 'a'; d <= 'z'; d++) {
                String[] others = {"" + c + d, "" + d + d + c, "a" + c + d + "zzzzz"};
                for (String other : others) {
                    String one = "tangle tall 9;person " + c + " tall 1";
                    behind(one, ";person " + other + " tall 1", 6, 15 + other.length());
                    behind(one, ";hold link " + other, 2, 11);
                }
            }
        }
    }

    // ---- who holds whom

    private static void hands() {
        behind(ONE, ";hold l a left a right", 3, 15);
        behind(ONE, ";hold l b left b", 3, 15);
        behind(HELD, ";hold m a left b right", 3, 10);
        behind(HELD, ";hold m a right b left", 3, 18);
        behind(HELD, ";hold m b left a right", 3, 10);
        behind(HELD, ";hold m b right a left", 3, 18);
        good("the other hands", HELD + ";hold m b right a right", 1);
        good("the first's left and the second's right", ONE + ";hold l a left b right;hold m b left a right", 1);
        behind(ONE, ";hold l a up", 1, 10);
        behind(ONE, ";hold l a left b up", 1, 17);
        behind(ONE, ";hold l a left b 1", 1, 17);
    }

    private static void byOnce() {
        String once = "tangle tall 9 once;person a tall 1;person b tall 1;person c tall 1;hold l a left b left";
        behind(once, ";hold m a right b right", 3, 16);
        behind(once, ";hold m b right a right", 3, 16);
        behind(once, ";hold m b right b left", 3, 16);
        good("each two by one hand", once + ";hold m b right c left;hold n a right c right", 1);
        good("twice, not by once", HELD + ";hold m a right b right", 1);
        String four = "tangle tall 9 once" + times(4, ";person p# tall 1") + ";hold l pa left pb left;hold m pc left pd left";
        behind(four, ";hold n pc right pd right", 3, 17);
        good("by once, a ring of four", four + ";hold n pb right pc right;hold o pd right pa right", 1);
    }

    // ---- CROSSINGS

    private static void places() {
        String two = HELD + ";hold m a right b right";
        for (int place : new int[] {1, 9}) {
            good("over at " + place, two + ";cross l " + place + " over m 5 plus", 1);
            good("under at " + place, two + ";cross l 5 over m " + place + " plus", 1);
        }
        for (int place : new int[] {0, 10, 99, 999}) {
            behind(two, ";cross l " + place + " over m 5 plus", 4, 9);
            behind(two, ";cross l 5 over m " + place + " plus", 4, 18);
        }
        behind(two, ";cross l 1 over l 1 plus", 3, 18);
        String told = two + ";cross l 1 over m 2 plus";
        behind(told, ";cross l 1 over l 2 plus", 3, 9);
        behind(told, ";cross m 2 over l 2 plus", 3, 9);
        behind(told, ";cross l 2 over l 1 plus", 3, 18);
        behind(told, ";cross l 2 over m 2 plus", 3, 18);
        good("like places on unlike links", two + ";cross l 1 over m 1 plus;cross m 2 over l 2 plus", 1);
        good("a link that crosses itself", two + ";cross m 9 over m 1 minus", 1);
    }

    /** TOKENS with which no TANGLE goes on: at each the text ahead of it is good so far. */
    private static void forms() {
        String[] line = {"hold", "m", "a", "right", "b", "right"};
        String[] cross = {"cross", "l", "1", "over", "l", "2", "plus"};
        String[] person = {"person", "c", "tall", "1"};
        for (String[] tokens : new String[][] {line, cross, person}) {
            StringBuilder told = new StringBuilder(HELD + ";");
            for (String token : tokens) {
                for (String other : new String[] {";", "+", "A", token.equals("1") || token.equals("2") ? "one" : "7"}) {
                    faulty(told + other, 1, told.length());
                }
                faulty(told.toString(), 1, told.length());
                faulty(told + "  ", 1, told.length() + 2);
                told.append(token).append(' ');
            }
            faulty(told + "more", 1, told.length());
            faulty(told + "7", 1, told.length());
        }
    }

    private static void firstFromTheLeft() {
        faulty("tangle tall 100;person a tall 0", 4, 12);
        faulty("tangle tall 9;person a tall 0 !", 4, 28);
        faulty("tangle tall 9;person a ! tall 0", 1, 23);
        faulty("! person a tall 1", 1, 0);
        faulty("hold l a left a left", 6, 0);
        faulty("  cross", 6, 2);
        // at the end both FORM and LACKS: the least number
        faulty("", 1, 0);
        faulty("tangle tall 9;", 1, 14);
        behind(HELD, ";", 1, 1);
        behind(HELD, ";hold m a right b", 1, 17);
        // a second tangle is no TOKEN of a LINE, but is told again
        faulty("tangle tall 9;tangle", 3, 14);
        faulty("tangle tangle", 1, 7);
    }

    private static void lacks() {
        faulty("person", 6, 0);
        faulty("hold", 6, 0);
        faulty("cross", 6, 0);
        faulty("tangle tall 9", 6, 13);
        faulty("tangle tall 9 once   ", 6, 21);
        faulty("tangle tall 9;person a tall 1", 6, 29);
        faulty(HELD, 6, HELD.length());
        behind(HELD, ";person c tall 1;hold m a right c right", 6, 39);
        good("no hand that holds nothing", HELD + ";person c tall 1;hold m a right c right;hold n c left b right", 1);
        // another tangle's hands are forgotten
        HandKnot k = of(TWO);
        refused(3, "told of another text", k, read(k, ONE), -1, 4);
        due(4, "its hands", k.fault(), 6);
        due(3, "its names are forgotten", read(k, TWO), 1);
    }

    private static void whereAndFault() {
        HandKnot k = new HandKnot();
        due(5, "no call yet", k.where(), -1);
        read(k, "tangle tall 100");
        due(5, "at the whole", k.where(), 12);
        due(5, "asked again", k.where(), 12);
        due(4, "bounds", k.fault(), 4);
        due(5, "fault() is no call that may be refused", k.where(), 12);
        k.feed(0, 0, 0, 0, 0);
        due(5, "nor feed()", k.where(), 12);
        k.size(3);
        k.size(99);
        led(k, 0);
        k.trouble();
        due(5, "nor size(), led(), trouble()", k.where(), 12);
        k.ways(2, 1, false);
        due(5, "ways() is, and wasn't", k.where(), -1);
        due(4, "the fault stays", k.fault(), 4);
        refused(3, "21 of 20 bytes", k, k.tangle(21), -1, 2);
        due(4, "refused by 2, it stays", k.fault(), 4);
        refused(3, "bytes of 0", k, k.tangle(20), -1, 4);
        due(4, "the latest one's", k.fault(), 1);
        due(5, "its place", k.where(), 0);
        k.undo();
        due(5, "refused by another number", k.where(), -1);
        due(3, "a good one", read(k, TWO), 1);
        due(4, "without one", k.fault(), 0);
        due(5, "nowhere", k.where(), -1);
    }
}
