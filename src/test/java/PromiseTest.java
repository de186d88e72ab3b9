/** For each promise of the document what would not be so if it were broken. */
public final class PromiseTest extends Checks {
    /** More than 4,000 TANGLES by 8 MOVES, but it is LOOSE by 5. */
    private static final String WIDE = tall(2) + ";cross ld 6 over lc 1 minus;cross la 6 over la 2 minus;"
        + "cross lc 6 over la 5 plus;cross lc 8 over lc 7 minus;cross lc 5 over lb 8 plus;cross ld 7 over la 7 minus;"
        + "cross ld 8 over la 4 plus";
    /** More than 4,000 by 8, LOOSE by none of up to 7. */
    private static final String WIDER = tall(2) + ";cross la 1 over lc 1 plus;cross la 3 over lc 9 plus;"
        + "cross lc 7 over lc 6 minus;cross ld 9 over ld 7 minus;cross la 7 over lc 8 plus;cross la 5 over ld 6 plus;"
        + "cross la 2 over la 6 minus";
    /** 4,000 by 8: there is still room for these. */
    private static final String ENOUGH = three(9, 1, 9) + ";cross la 5 over lb 5 minus;cross lc 4 over lb 2 minus;"
        + "cross la 1 over lb 8 plus;cross lc 3 over lb 4 plus;cross la 8 over lc 2 plus;cross lc 9 over lb 9 minus;"
        + "cross lc 5 over lb 1 plus";
    /** 4,001 by 8: one too many. */
    private static final String TOO_MANY = three(1, 9, 9) + ";cross lb 2 over lc 4 plus;cross lb 5 over la 1 plus;"
        + "cross lb 9 over lb 1 minus;cross lb 3 over lc 3 minus;cross lc 1 over lc 6 plus;cross la 5 over la 2 plus;"
        + "cross lb 4 over lc 7 minus";

    /** RINGS of two, each with a LINK between left hands and one between right hands. */
    private static String tall(int rings) {
        StringBuilder s = new StringBuilder("tangle tall 99");
        for (char p = 'a'; p < 'a' + 2 * rings; p++) s.append(";person p").append(p).append(" tall 1");
        for (char p = 'a'; p < 'a' + 2 * rings; p += 2) {
            char o = (char) (p + 1);
            s.append(";hold l" + p + " p" + p + " left p" + o + " left;hold l" + o + " p" + p + " right p" + o + " right");
        }
        return s.toString();
    }

    /** A RING of three, so tall, where 5 is the tallest that may go. */
    private static String three(int a, int b, int c) {
        return "tangle tall 5;person pa tall " + a + ";person pb tall " + b + ";person pc tall " + c
            + ";hold la pa left pb right;hold lb pb left pc right;hold lc pc left pa right";
    }

    public static void main(String[] args) {
        newObject();
        tape();
        texts();
        faults();
        holding();
        standing();
        signs();
        moves();
        open();
        searches();
        room();
        counts();
        parting();
        within();
        chances();
        acts();
        history();
        told();
        noTrouble();
        trouble();
        end();
    }

    private static void newObject() {
        HandKnot k = new HandKnot();
        due(50, "a new object's trouble", k.trouble(), 0);
        due(4, "a new object's fault", k.fault(), 0);
        due(5, "a new object's where", k.where(), -1);
        for (int i = 0; i <= 11; i++) due(49, "size without a tangle", k.size(i), 0);
        int[] is = {k.ring(0), k.people(0), k.member(0, 0), k.holds(0, true), k.along(0), k.stands(0), k.place(0, 0),
            k.left(), k.loose(), k.may(0), k.goer(0), k.moves(), k.moveAt(0), k.fewest(0), k.next(1), k.caller(),
            k.colours(3), k.cannot(), k.part(0), k.lift(0), k.arcs(), k.reached(0), k.few(0), k.sees(0), k.own(0),
            k.rounds(0), k.tries(0, 1, 0), k.move(0), k.parts(0), k.lot(), k.call(), k.mark()};
        for (int i = 0; i < is.length; i++) due(1, "call " + i + " of a new object", is[i], -1);
        refused(24, "colours by a bad number of a new object", k, k.colours(4), -1, 1);
        refused(20, "fewest by a bad number of a new object", k, k.fewest(9), -1, 1);
        refused(21, "next by a bad number of a new object", k, k.next(0), -1, 1);
        refused(26, "part by a bad number of a new object", k, k.part(9), -1, 1);
        refused(27, "lift by a bad number of a new object", k, k.lift(-1), -1, 1);
        refused(30, "reached by a bad number of a new object", k, k.reached(9), -1, 1);
        refused(31, "few by a bad number of a new object", k, k.few(9), -1, 1);
        refused(34, "rounds by a bad number of a new object", k, k.rounds(10), -1, 1);
        refused(35, "tries by a bad number of a new object", k, k.tries(-1, 0, 0), -1, 1);
        refused(13, "sign of a new object", k, k.sign(0), -100, 1);
        refused(23, "hang of a new object", k, k.hang(0, 1), -100, 1);
        refused(28, "twist of a new object", k, k.twist(0), -100, 1);
        refused(41, "lifts of a new object", k, k.lifts(0), -100, 1);
        refused(44, "seed of a new object", k, k.seed(65537), 1);
        refused(45, "undo of a new object", k, k.undo(), 6);
        refused(46, "mark of a new object", k, k.mark(), -1, 1);
        refused(47, "back of a new object", k, k.back(0), 1);
        due(1, "NONE", HandKnot.NONE, -1);
    }

    private static void tape() {
        HandKnot k = new HandKnot();
        for (int i = 1; i <= 45; i++) due(2, "feed " + i, k.feed(0, -1, 1, 2, 3), 20 * i);
        due(2, "feed beyond 900", k.feed(0, 0, 0, 0, 0), -1);
        due(49, "the tape", k.size(11), 900);
        refused(3, "more than the tape has", k, k.tangle(901), -1, 2);
        due(5, "where, refused by 2", k.where(), -1);
        due(49, "the tape stays", k.size(11), 900);
        refused(3, "less than nothing", k, k.tangle(-1), -1, 2);
        refused(3, "bytes that begin no token", k, k.tangle(900), -1, 4);
        due(49, "the tape is empty", k.size(11), 0);
        due(2, "feed again", k.feed(0, 0, 0, 0, 0), 20);
        full(k, ';', 1, 0);
        full(k, ' ', 1, 900);
        full(k, 'a', 1, 0);
        full(k, '1', 1, 0);
        HandKnot full = new HandKnot();
        String text = SLIP + " ".repeat(899 - SLIP.length()) + ";";
        feed(full, text);
        due(3, "900 bytes", full.tangle(900), -1);
        due(5, "the end of 900 bytes", full.where(), 900);
        feed(full, text);
        due(3, "899 of 900 bytes", full.tangle(899), 1);
        // the highest byte of each number first: "tang", "le t", "all ", "9 on", "ce;p"
        HandKnot h = new HandKnot();
        h.feed(0x74616e67, 0x6c652074, 0x616c6c20, 0x39206f6e, 0x63653b70);
        refused(3, "what comes behind the first n means nothing", h, h.tangle(18), -1, 4);
        due(4, "no person", h.fault(), 6);
        due(5, "at the end", h.where(), 18);
    }

    private static void full(HandKnot k, char all, int fault, int where) {
        k.tangle(0);
        feed(k, String.valueOf(all).repeat(900));
        refused(3, "900 times " + all, k, k.tangle(900), -1, 4);
        due(4, "900 times " + all, k.fault(), fault);
        due(5, "900 times " + all, k.where(), where);
    }

    private static void texts() {
        HandKnot k = of("  tangle   tall 050once ;person tall tall 5;person once tall 6 ;person over tall 7;"
            + " hold left tall left once right;hold plus once left over left;hold minus over right tall right ;"
            + "cross left 009over plus 9minus  ");
        due(3, "blanks part tokens, and need not", k.size(0), 3);
        due(49, "tall", k.size(5), 50);
        due(49, "once", k.size(6), 1);
        due(3, "rings of a text", read(k, FOUR), 2);
        due(49, "not once", k.size(6), 0);
        due(4, "no fault", k.fault(), 0);
        due(3, "one ring of eight by once", read(k, ringOf(8, " once")), 1);
        due(49, "eight links", k.size(1), 8);
        due(3, "tall 0, lines in another order", read(k, "tangle tall 0;person x tall 99;person y tall 1;"
            + "hold l x left y left;cross l 9 over l 1 minus;hold m y right x right"), 1);
        due(49, "tall 0", k.size(5), 0);
        k.lifts(0);
        k.seed(5);
        k.mark();
        k.parts(1);
        read(k, "tangle");
        due(3, "the tangle stays", k.size(3), 1);
        due(3, "what is parted stays", k.size(7), 1);
        due(3, "the seed stays", k.size(8), 5);
        due(3, "acts stay", k.size(9), 2);
        due(3, "marks stay", k.size(10), 1);
        read(k, TWO);
        due(3, "nothing is parted", k.size(7), -2);
        due(3, "seed 0", k.size(8), 0);
        due(3, "nothing to undo", k.size(9), 0);
        due(3, "no marks", k.size(10), 0);
        refused(3, "nothing to undo then", k, k.undo(), 6);
        refused(3, "no marks then", k, k.back(0), 1);
    }

    private static void faults() {
        faulty("", 1, 0);
        faulty("   ", 1, 3);
        faulty("tangle tall 9  ", 6, 15);
        faulty("tangle tall 9;", 1, 14);
        faulty("tangle tall 9;;", 1, 14);
        faulty("tangle tall 9 person", 1, 14);
        faulty("tangle tall once", 1, 12);
        faulty("tangle tall 9 once once", 1, 19);
        faulty("tangle tall 1000", 1, 12);
        faulty("tangle tall 100", 4, 12);
        faulty("tangletall 9", 1, 0);
        faulty("tangle Tall 9", 1, 7);
        faulty("tangle tall 9;tangle tall 9", 3, 14);
        faulty("knot tall 9", 1, 0);
        faulty("person a tall 1;tangle tall 9", 6, 0);
        faulty("hold", 6, 0);
        faulty("cross 1", 6, 0);
        faulty("tangle tall 9;person abcdefghi tall 1", 1, 21);
        faulty("tangle tall 9;person 1 tall 1", 1, 21);
        faulty("tangle tall 9;person cross tall 1", 1, 21);
        faulty("tangle tall 9;person a", 1, 22);
        faulty("tangle tall 9;person a tall 100", 4, 28);
        faulty("tangle tall 9;person a tall 0", 4, 28);
        faulty("tangle tall 9;person a tall 1;person a tall 1", 3, 37);
        faulty("tangle tall 9;person a tall 1;hold a", 3, 35);
        faulty("tangle tall 9;person a tall 1;hold l a left l", 2, 44);
        faulty("tangle tall 9;person a tall 1;hold l hold", 1, 37);
        faulty("tangle tall 9;person a tall 1;hold l a left b", 2, 44);
        faulty("tangle tall 9;person a tall 1;hold l a left a", 3, 44);
        faulty("tangle tall 9;person a tall 1;hold l a a", 1, 39);
        faulty(TWO + ";hold n", 1, TWO.length() + 7);
        faulty(TWO + ";hold n a left", 3, TWO.length() + 10);
        faulty(TWO + ";person c tall 1", 6, TWO.length() + 16);
        faulty("tangle tall 9" + times(9, ";person p# tall 9"), 5, 13 + 8 * 17 + 1);
        faulty(ringOf(8, "") + ";hold l pa left", 5, ringOf(8, "").length() + 1);
        faulty(TWO + ";cross l % over m 1 plus", 1, TWO.length() + 9);
        crossFaults();
    }

    private static void crossFaults() {
        StringBuilder s = new StringBuilder(TWO);
        for (int i = 1; i <= 7; i++) s.append(";cross l " + i + " over m " + i + " plus");
        int end = s.length();
        due(49, "seven crossings", of(s.toString()).size(3), 7);
        faulty(s + ";cross", 5, end + 1);
        faulty(TWO + ";cross a", 2, TWO.length() + 7);
        faulty(TWO + ";cross l 10", 4, TWO.length() + 9);
        faulty(TWO + ";cross l 1 over l 1", 3, TWO.length() + 18);
        faulty(TWO + ";cross l 1 over m 2 plus;cross m 2", 3, TWO.length() + 33);
        faulty(TWO + ";cross l 1 over m 2 up", 1, TWO.length() + 20);
        faulty(TWO + ";cross l 1 under m 2 plus", 1, TWO.length() + 11);
        faulty(TWO + ";cross l 1 over m 2", 1, TWO.length() + 19);
        faulty(TWO + ";cross l 1 over m 2 plus plus", 1, TWO.length() + 25);
        faulty(TWO + ";cross cross 1 over m 2 plus", 1, TWO.length() + 7);
        String three = "tangle tall 9 once;person a tall 1;person b tall 1;person c tall 1;hold l a left b right";
        faulty(three + ";hold m b left a", 3, three.length() + 15);
        faulty(three + ";hold m a left", 3, three.length() + 10);
        due(3, "three by once", of(three + ";hold m c left b left;hold n a right c right").size(2), 1);
    }

    private static void holding() {
        // a's left holds c's right, c's left holds b's left, b's right holds a's right: one ring; d and e another
        HandKnot k = of("tangle tall 5;person a tall 1;person d tall 1;person b tall 1;person e tall 1;person c tall 1;"
            + "hold v c right a left;hold w c left b left;hold x a right b right;hold y e left d left;hold z d right e right");
        int[] rings = {0, 1, 0, 1, 0};
        for (int p = 0; p < 5; p++) due(6, "ring of " + p, k.ring(p), rings[p]);
        refused(6, "ring of nobody", k, k.ring(5), -1, 1);
        refused(6, "ring of -1", k, k.ring(-1), -1, 1);
        due(7, "people of ring 0", k.people(0), 3);
        due(7, "people of ring 1", k.people(1), 2);
        refused(7, "people of no ring", k, k.people(2), -1, 1);
        refused(7, "people of ring -1", k, k.people(-1), -1, 1);
        due(8, "member 0", k.member(0, 0), 0);
        due(8, "member 1", k.member(0, 1), 4);
        due(8, "member 2", k.member(0, 2), 2);
        due(8, "member 0 of the other", k.member(1, 0), 1);
        due(8, "member 1 of the other", k.member(1, 1), 3);
        refused(8, "member beyond", k, k.member(1, 2), -1, 1);
        refused(8, "member -1", k, k.member(0, -1), -1, 1);
        refused(8, "member of no ring", k, k.member(2, 0), -1, 1);
        due(9, "a's left", k.holds(0, false), 9);
        due(9, "a's right", k.holds(0, true), 5);
        due(9, "c's left", k.holds(4, false), 4);
        refused(9, "nobody's left", k, k.holds(5, false), -1, 1);
        int[] along = {0, 1, 0, 0, 0};
        for (int l = 0; l < 5; l++) due(10, "along " + l, k.along(l), along[l]);
        refused(10, "along no link", k, k.along(5), -1, 1);
        refused(10, "along -1", k, k.along(-1), -1, 1);
        due(50, "a call that wasn't refused", k.along(0) + k.trouble(), 0);
    }

    private static void standing() {
        // l is gone along, m against: the greatest place of m first
        HandKnot k = of(TWO + ";cross m 2 over l 7 plus;cross m 9 over m 1 minus;cross l 3 over m 5 minus");
        int[] stands = {5, 0, 3, 4, 1, 2};
        int[] links = {0, 0, 1, 1, 1, 1};
        for (int s = 0; s < 6; s++) {
            due(11, "standing " + s, k.stands(s), stands[s]);
            due(12, "link of standing " + s, k.place(s, 1), links[s]);
            due(12, "ring of standing " + s, k.place(s, 0), 0);
        }
        refused(11, "no standing", k, k.stands(6), -1, 1);
        refused(11, "standing -1", k, k.stands(-1), -1, 1);
        refused(12, "place of no standing", k, k.place(6, 0), -1, 1);
        refused(12, "place, no such what", k, k.place(0, 2), -1, 1);
        refused(12, "place, what -1", k, k.place(0, -1), -1, 1);
        due(14, "left", k.left(), 3);
        due(15, "loose", k.loose(), 0);
        due(15, "nothing told is loose", of(TWO).loose(), 1);
        due(14, "nothing told is left", of(TWO).left(), 0);
        HandKnot rings = of(HOPF);
        int[] passes = {1, 2, 0, 3};
        for (int s = 0; s < 4; s++) {
            due(11, "ring by ring " + s, rings.stands(s), passes[s]);
            due(12, "ring of " + s, rings.place(s, 0), s / 2);
            due(12, "link of " + s, rings.place(s, 1), s / 2 * 2);
        }
        due(15, "loose then", of(NEST).move(1), 1);
        HandKnot gone = of(NEST);
        gone.move(1);
        due(11, "nothing any more", gone.stands(1), -2);
        due(11, "still there", gone.stands(3), 0);
    }

    private static void signs() {
        HandKnot k = of(TWO + ";cross m 2 over l 7 plus;cross m 9 over m 3 minus;cross l 3 over l 5 minus;cross l 1 over m 1 minus");
        int[] due = {-1, -1, -1, 1};
        for (int x = 0; x < 4; x++) due(13, "sign " + x, k.sign(x), due[x]);
        refused(13, "no crossing", k, k.sign(4), -100, 1);
        refused(13, "crossing -1", k, k.sign(-1), -100, 1);
        due(41, "a lift turns the sign", k.lifts(0), 1);
        due(13, "turned", k.sign(0), 1);
        due(41, "and back", k.lifts(0), -1);
        HandKnot gone = of(NEST);
        gone.move(1);
        due(13, "gone", gone.sign(1), 0);
        due(13, "told plus", gone.sign(0), 1);
    }

    private static void moves() {
        HandKnot k = of(NEST);
        due(18, "moves of one in the other", k.moves(), 2);
        due(19, "the first", k.moveAt(0), 0);
        due(19, "the second", k.moveAt(1), 1);
        refused(19, "no third", k, k.moveAt(2), -1, 1);
        refused(19, "none at -1", k, k.moveAt(-1), -1, 1);
        due(16, "signs are like: no slip", k.may(101), 0);
        due(16, "round, nothing is between", k.may(0), 1);
        refused(16, "no such crossing", k, k.may(2), -1, 1);
        refused(16, "x isn't below y", k, k.may(110), -1, 1);
        refused(16, "x is y", k, k.may(100), -1, 1);
        refused(16, "a slip of none", k, k.may(102), -1, 1);
        refused(16, "a step of two", k, k.may(1010), -1, 1);
        refused(16, "below 0", k, k.may(-1), -1, 1);
        refused(16, "far beyond", k, k.may(2012), -1, 1);
        refused(16, "between turns and slips", k, k.may(10), -1, 1);
        due(17, "one who turns", k.goer(0), -2);
        refused(17, "a slip that can't be", k, k.goer(101), -1, 5);
        refused(17, "no such number", k, k.goer(2), -1, 1);
        k.move(1);
        due(16, "what is gone may not", k.may(1), 0);
        refused(17, "what is gone can't", k, k.goer(1), -1, 5);
        goers();
        HandKnot s = of(STEP);
        due(16, "a step", s.may(1012), 1);
        due(16, "another step", s.may(1021), 0);
        refused(16, "a step of unlike ones", s, s.may(1011), -1, 1);
        due(39, "a step leaves as many", s.move(1012), 3);
        int[] then = {3, 1, 5, 0, 4, 2};
        for (int i = 0; i < 6; i++) due(39, "behind a step at " + i, s.stands(i), then[i]);
        due(18, "moves behind it", s.moves(), 3);
        due(22, "caller", s.caller(), 1);
    }

    private static void goers() {
        // the under pass that stands first is on m: of b (60) and a (40) a is the less tall
        due(17, "the less tall", of(SLIP).goer(101), 0);
        due(17, "of like ones the lesser number", of(SLIP.replace("tall 60", "tall 40")).goer(101), 0);
        due(17, "b if he is the less tall", of(SLIP.replace("tall 60", "tall 39")).goer(101), 1);
        due(16, "no taller than tall", of(SLIP.replace("tall 50", "tall 40")).may(101), 1);
        HandKnot low = of(SLIP.replace("tall 50", "tall 39"));
        due(16, "taller than tall", low.may(101), 0);
        due(17, "goer, may it or not", low.goer(101), 0);
        due(18, "none may be", low.moves(), 0);
        refused(39, "he is too tall", low, low.move(101), -1, 5);
        due(16, "but for turns", of(NEST.replace("tall 50", "tall 0")).may(1), 1);
        due(16, "steps too", of(STEP.replace("tall 50", "tall 39")).may(1012), 0);
        // over passes on l, under ones on n (b to c) and o (c to a): n stands first, its less tall one is c
        String three = "tangle tall 5;person a tall 1;person b tall 7;person c tall 6;hold l a left b left;"
            + "hold n c left b right;hold o c right a right;cross l 1 over n 1 plus;cross l 2 over o 1 plus";
        HandKnot k = of(three);
        due(10, "n is gone against", k.along(1), 0);
        due(16, "c is too tall", k.may(101), 0);
        due(17, "c goes", k.goer(101), 2);
        due(16, "tall enough", of(three.replace("tangle tall 5", "tangle tall 6")).may(101), 1);
    }

    private static void open() {
        HandKnot k = of(NEST);
        due(40, "nothing stands on m", k.parts(1), 0);
        due(16, "not over a link that was parted", k.may(0), 0);
        due(16, "on the other side", k.may(1), 1);
        due(29, "arcs from end to end", k.arcs(), 3);
        due(24, "colours of an open one", k.colours(3), 1);
        due(20, "fewest of an open one", k.fewest(2), 2);
        due(21, "next of an open one", k.next(2), 1);
        refused(40, "parted once only", k, k.parts(0), -1, 5);
        refused(40, "no link", k, k.parts(2), -1, 1);
        refused(40, "link -1", k, k.parts(-1), -1, 1);
        refused(26, "one is parted", k, k.part(0), -1, 5);
        refused(26, "a number, though one is parted", k, k.part(9), -1, 2);
        due(49, "the link parted", k.size(7), 1);
        due(6, "rings stay", k.size(2), 1);
        k.move(1);
        due(29, "arcs then", k.arcs(), 2);
        due(16, "now it may", k.may(0), 1);
        k.move(0);
        due(29, "one arc", k.arcs(), 1);
        HandKnot h = of(HOPF);
        due(40, "two crossings stand on l", h.parts(0), 2);
        due(15, "loose", h.loose(), 1);
        due(40, "a link with nothing", of(HOPF).parts(3), 0);
        // 0 stands on l, 1 on both, 2 on m
        HandKnot s = of(TWO + ";cross l 1 over l 2 plus;cross l 3 over m 9 plus;cross m 8 over m 7 minus");
        due(40, "by what stands on it", s.parts(0), 2);
        due(14, "left then", s.left(), 1);
        due(13, "that one", s.sign(2), -1);
        // under 2 is told on m, but a step brings under 1 there
        String split = STEP.replace("over l 6", "over m 9");
        HandKnot told = of(split);
        told.parts(1);
        due(40, "as told", told.sign(2), 0);
        HandKnot stepped = of(split);
        stepped.move(1012);
        due(40, "by what stands there now", stepped.parts(1), 1);
        due(40, "not what was told there", stepped.sign(1), 0);
        due(12, "a standing stays on its link", stepped.place(5, 1), 1);
    }

    private static void searches() {
        HandKnot k = of(STEP);
        due(20, "fewest in 2", k.fewest(2), -2);
        due(20, "fewest in 3", k.fewest(3), 3);
        due(20, "fewest in 8", k.fewest(8), 3);
        refused(20, "fewest in 9", k, k.fewest(9), -1, 2);
        refused(20, "fewest in -1", k, k.fewest(-1), -1, 2);
        due(21, "next in 3", k.next(3), 1012);
        due(21, "next in 2", k.next(2), -2);
        refused(21, "next in 0", k, k.next(0), -1, 2);
        refused(21, "next in 9", k, k.next(9), -1, 2);
        due(30, "reached in 0", k.reached(0), 1);
        due(30, "reached in 1", k.reached(1), 2);
        // behind the step: turn 1, slip 102, or back
        due(30, "reached in 2", k.reached(2), 4);
        due(31, "few in 0", k.few(0), 3);
        due(31, "few in 1", k.few(1), 3);
        due(31, "few in 2", k.few(2), 1);
        due(31, "few in 3", k.few(3), 0);
        refused(30, "reached in 9", k, k.reached(9), -1, 2);
        refused(30, "reached in -1", k, k.reached(-1), -1, 2);
        refused(31, "few in 9", k, k.few(9), -1, 2);
        refused(31, "few in -1", k, k.few(-1), -1, 2);
        due(22, "caller", k.caller(), 1012);
        HandKnot nest = of(NEST);
        due(20, "fewest of two turns", nest.fewest(8), 2);
        due(21, "the first of two", nest.next(8), 0);
        due(22, "the first of two callers", nest.caller(), 0);
        due(30, "none, the one, the other, both", nest.reached(8), 4);
        HandKnot loose = of(TWO);
        due(20, "fewest of what is loose", loose.fewest(0), 0);
        due(21, "next of what is loose", loose.next(8), -2);
        due(22, "caller of what is loose", loose.caller(), -2);
        due(31, "few of what is loose", loose.few(0), 0);
        HandKnot ahead = of(TWO + ";cross l 1 over m 9 plus;cross l 2 over m 8 minus;cross l 5 over l 6 plus");
        due(18, "a turn, a slip, and a step round", ahead.moves(), 3);
        due(19, "that step", ahead.moveAt(2), 1120);
        due(22, "both come to nothing: the first", ahead.caller(), 2);
        due(21, "both are next: the first", ahead.next(2), 2);
    }

    private static void room() {
        HandKnot k = of(WIDE);
        due(20, "loose ahead of too many", k.fewest(8), 5);
        refused(30, "too many", k, k.reached(8), -1, 3);
        refused(31, "too many for few", k, k.few(8), -1, 3);
        due(30, "not too many by 7", k.reached(7) > 0 ? 1 : 0, 1);
        due(50, "no trouble", k.trouble(), 0);
        k.next(8);
        due(21, "next isn't refused", k.trouble(), 0);
        HandKnot w = of(WIDER);
        due(20, "not by 7", w.fewest(7), -2);
        refused(20, "fewest, too many", w, w.fewest(8), -1, 3);
        refused(21, "next, too many", w, w.next(8), -1, 3);
        due(30, "by 7", w.reached(7), 2613);
        due(21, "next by 7", w.next(7), -2);
        due(30, "just room enough", of(ENOUGH).reached(8), 4000);
        HandKnot t = of(TOO_MANY);
        refused(30, "one too many", t, t.reached(8), -1, 3);
        refused(31, "one too many for few", t, t.few(8), -1, 3);
        // a third ring on which nothing stands: parting it changes nothing of the others
        HandKnot p = of(WIDER.replace(tall(2), tall(3)));
        refused(26, "part, behind some too many", p, p.part(8), -1, 3);
        due(26, "part by fewer", p.part(7), 0);
        due(26, "behind no link too many", of(WIDER).part(8), 0);
        // lifting what was lifted is behind some of the lifts, and there are too many then
        HandKnot u = of(WIDER);
        u.lifts(0);
        refused(27, "lift, behind some too many", u, u.lift(8), -1, 3);
        due(27, "lift by fewer", u.lift(0), -2);
    }

    private static void counts() {
        HandKnot k = of(HOPF);
        due(23, "hang", k.hang(0, 1), 2);
        due(23, "hang, the other way", k.hang(1, 0), 2);
        refused(23, "a ring in itself", k, k.hang(1, 1), -100, 1);
        refused(23, "no ring", k, k.hang(0, 2), -100, 1);
        refused(23, "ring -1", k, k.hang(-1, 0), -100, 1);
        due(28, "no twist", k.twist(0), 0);
        due(25, "two hang in each other", k.cannot(), 1);
        due(24, "colours of these", k.colours(5), 1);
        k.lifts(0);
        due(23, "one over, one under", k.hang(0, 1), 0);
        due(25, "they don't hang", k.cannot(), 0);
        due(24, "two free", k.colours(7), 2);
        HandKnot t = of(TREFOIL);
        due(28, "twist", t.twist(0), 3);
        refused(28, "no ring", t, t.twist(1), -100, 1);
        refused(28, "ring -1", t, t.twist(-1), -100, 1);
        due(24, "by threes", t.colours(3), 2);
        due(24, "by fives", t.colours(5), 1);
        due(24, "by sevens", t.colours(7), 1);
        for (int p : new int[] {-3, 0, 1, 2, 4, 6, 9, 11}) refused(24, "by " + p, t, t.colours(p), -1, 2);
        due(25, "it can't, by threes", t.cannot(), 1);
        due(29, "arcs", t.arcs(), 3);
        // the knot of four crossings is coloured by fives alone
        HandKnot four = of(TWO + ";cross l 1 over l 6 plus;cross l 5 over l 2 plus;cross l 3 over l 8 minus;cross l 7 over l 4 minus");
        due(24, "four by threes", four.colours(3), 1);
        due(24, "four by fives", four.colours(5), 2);
        due(24, "four by sevens", four.colours(7), 1);
        due(25, "it can't, by fives", four.cannot(), 1);
        due(28, "no twist of four", four.twist(0), 0);
        // five crossings, each under two on: by fives; seven so: by sevens
        due(24, "five by fives", of(TWO + star(5)).colours(5), 2);
        due(24, "five by sevens", of(TWO + star(5)).colours(7), 1);
        due(24, "seven by sevens", of(star7()).colours(7), 2);
        due(24, "seven by threes", of(star7()).colours(3), 1);
        due(25, "it can't, by sevens", of(star7()).cannot(), 1);
        due(29, "a ring without: one", of(FOUR).arcs(), 2);
        due(24, "two loose ones", of(FOUR).colours(3), 2);
        due(25, "two loose ones", of(FOUR).cannot(), 0);
        // one ring wholly over the other: the lower one has two arcs, the upper one has one
        HandKnot over = of(FOUR + ";cross l 1 over p 1 plus;cross l 2 over p 2 minus");
        due(29, "arcs of one over the other", over.arcs(), 3);
        due(24, "colours of one over the other", over.colours(3), 2);
    }

    /** A closed braid of two strands, with an odd number of crossings. */
    private static String star(int n) {
        StringBuilder s = new StringBuilder();
        for (int i = 0; i < n; i++) {
            int one = i % 2 == 0 ? i : i + n;
            int two = i % 2 == 0 ? i + n : i;
            s.append(";cross " + at(one) + " over " + at(two) + " plus");
        }
        return s.toString();
    }

    /** The n-th place round a ring of two: l along, m against. */
    private static String at(int n) {
        return n < 8 ? "l " + (n + 1) : "m " + (9 - (n - 8));
    }

    private static String star7() {
        return TWO + star(7);
    }

    private static void parting() {
        HandKnot k = of(HOPF);
        due(26, "the first link that frees", k.part(0), 0);
        refused(26, "part in 9", k, k.part(9), -1, 2);
        refused(26, "part in -1", k, k.part(-1), -1, 2);
        due(26, "nothing is changed", k.left(), 2);
        due(26, "nothing is parted", k.size(7), -2);
        // all stands on m, so l frees nothing
        due(26, "only m frees it", of(TREFOIL.replace("cross l", "cross m").replace("over l", "over m")).part(8), 1);
        HandKnot both = of(FOUR + ";cross l 1 over p 1 plus;cross p 2 over l 2 plus;cross q 1 over m 1 plus;cross m 2 over q 2 plus");
        due(26, "none does", both.part(8), -2);
        due(26, "of what is loose, the first", of(TWO).part(0), 0);
        due(27, "of what is loose, none", of(TWO).lift(8), -2);
        due(27, "the first that frees", of(HOPF).lift(2), 0);
        due(27, "none in 0", of(HOPF).lift(0), -2);
        refused(27, "lift in 9", k, k.lift(9), -1, 2);
        refused(27, "lift in -1", k, k.lift(-1), -1, 2);
        due(27, "nothing is changed", k.sign(0), 1);
        // crossing 0 only turns; lifting 1 or 2 makes a slip of them: 1 is the first of these
        HandKnot l = of(HOPF.replace(";cross l 1", ";cross q 1 over q 2 plus;cross l 1"));
        due(27, "not the least number, the least fewest", l.lift(8), 1);
        l.move(0);
        due(27, "only what is left", l.lift(8), 1);
    }

    private static void within() {
        HandKnot k = of("tangle tall 5;person a tall 1;person b tall 1;person c tall 1;person d tall 1;"
            + "hold l a left b left;hold m b right c left;hold n c right d left;hold o d right a right;"
            + "cross l 1 over l 2 plus;cross n 1 over n 2 plus;cross m 1 over o 1 plus");
        int[] sees = {5, 5, 6, 6};
        int[] own = {0, 0, 1, 1};
        for (int p = 0; p < 4; p++) {
            due(32, "sees " + p, k.sees(p), sees[p]);
            due(33, "own " + p, k.own(p), own[p]);
        }
        refused(32, "nobody sees", k, k.sees(4), -1, 1);
        refused(32, "-1 sees", k, k.sees(-1), -1, 1);
        refused(33, "nobody's own", k, k.own(4), -1, 1);
        refused(33, "-1's own", k, k.own(-1), -1, 1);
        due(34, "no round", k.rounds(0), 3);
        // a turns 0; b sees 2 alone, that can't turn yet; c turns 1; then 2 stands alone, and d turns it
        due(34, "one round", k.rounds(1), 0);
        due(34, "nine", k.rounds(9), 0);
        due(34, "nothing is changed", k.left(), 3);
        refused(34, "ten rounds", k, k.rounds(10), -1, 2);
        refused(34, "-1 rounds", k, k.rounds(-1), -1, 2);
        // a step leaves as many: nobody makes it in a round
        HandKnot s = of(STEP);
        due(33, "a step may be one's own", s.own(0), 1012);
        due(34, "by which none are fewer", s.rounds(9), 3);
        s.move(1012);
        due(33, "the slip leaves fewest", s.own(1), 102);
        due(33, "none", of(TREFOIL).own(0), -2);
        k.move(0);
        due(32, "what is gone isn't seen", k.sees(0), 4);
        tries();
    }

    private static void tries() {
        HandKnot k = of(NEST);
        due(35, "all come loose by two", k.tries(0, 20, 2), 20);
        due(35, "none by one", k.tries(65536, 20, 1), 0);
        due(35, "what is loose comes so", of(TWO).tries(0, 7, 0), 7);
        due(35, "what can't move doesn't", of(TREFOIL).tries(3, 20, 20), 0);
        due(35, "nothing is changed", k.left(), 2);
        due(35, "nor the seed", k.size(8), 0);
        int[][] bad = {{-1, 1, 0}, {65537, 1, 0}, {0, 0, 0}, {0, 21, 0}, {0, 1, -1}, {0, 1, 21}};
        for (int[] b : bad) refused(35, "tries " + b[0] + " " + b[1] + " " + b[2], k, k.tries(b[0], b[1], b[2]), -1, 2);
        // behind the step three may be: 1, 102, 1012. By 2 each, loose are 1 then (one of two), 102 then 1
        HandKnot s = of(STEP);
        s.move(1012);
        due(35, "a try of seed 1000, by hand", s.tries(1000, 1, 2), byHand(s, 1000, 1, 2));
        due(35, "going on from one to the next", s.tries(1000, 20, 2), byHand(s, 1000, 20, 2));
        due(35, "of up to 20", s.tries(12345, 20, 20), byHand(s, 12345, 20, 20));
        due(35, "still nothing is changed", s.moves(), 3);
    }

    /** The same by lots on an object of its own. */
    private static int byHand(HandKnot like, int seed, int n, int d) {
        int came = 0;
        int v = seed;
        for (int i = 0; i < n; i++) {
            HandKnot k = of(STEP);
            k.move(1012);
            k.seed(v);
            for (int j = 0; j < d && k.moves() > 0; j++) k.lot();
            came += k.loose();
            v = k.size(8);
        }
        return like.moves() < 0 ? -1 : came;
    }

    private static void chances() {
        HandKnot k = new HandKnot();
        for (int n = 2; n <= 6; n++) {
            for (int once = 0; once < 2; once++) {
                long[] ways = new long[14];
                match(n, once == 1, new int[2 * n], 0, ways);
                for (int r = 0; r <= 13; r++) due(36, "ways " + n + " " + r + " " + once, k.ways(n, r, once == 1), ways[r]);
            }
        }
        long all = 0;
        for (int r = 0; r <= 13; r++) all += k.ways(13, r, false);
        due(36, "all ways of 13", all, pairings(13));
        // 13 in one ring: 12! orders, and twelve choices of a hand
        due(36, "13 in one ring", k.ways(13, 1, true), 479001600L * 4096);
        due(36, "13 in four rings by once: three threes and a four", k.ways(13, 4, true), 200200L * 8 * 8 * 8 * 48);
        due(36, "no ring", k.ways(5, 0, false), 0);
        due(36, "more rings than people", k.ways(2, 13, false), 0);
        int[][] bad = {{1, 1}, {14, 1}, {2, -1}, {2, 14}};
        for (int[] b : bad) {
            refused(36, "ways " + b[0] + " " + b[1], k, k.ways(b[0], b[1], false), -1, 2);
            refused(37, "odds " + b[0] + " " + b[1], k, k.odds(b[0], b[1], true, false), -1, 2);
        }
        due(37, "odds of 48 of 60, upper", k.odds(4, 1, false, false), 4);
        due(37, "odds of 48 of 60, lower", k.odds(4, 1, false, true), 5);
        due(37, "odds of none, upper", k.odds(4, 3, false, false), 0);
        due(37, "odds of none, lower", k.odds(4, 3, false, true), 1);
        due(37, "odds of all, upper", k.odds(5, 1, true, false), 1);
        due(37, "odds of all, lower", k.odds(5, 1, true, true), 1);
        refused(37, "no ways at all", k, k.odds(2, 1, true, false), -1, 6);
        refused(37, "a number ahead of no ways", k, k.odds(2, 14, true, false), -1, 2);
        due(38, "mean of 4, upper", k.mean(4, false, false), 6);
        due(38, "mean of 4, lower", k.mean(4, false, true), 5);
        due(38, "mean of 3", k.mean(3, true, false), 1);
        refused(38, "mean of 1", k, k.mean(1, false, false), -1, 2);
        refused(38, "mean of 14", k, k.mean(14, false, false), -1, 2);
        refused(38, "mean of no ways", k, k.mean(2, true, false), -1, 6);
        k.ways(2, 1, false);
        due(50, "ways wasn't refused", k.trouble(), 0);
    }

    /** All pairings of 2 n hands in which nobody holds his own, 0 standing for a free hand. */
    private static void match(int n, boolean once, int[] with, int from, long[] ways) {
        int hand = from;
        while (hand < 2 * n && with[hand] != 0) hand++;
        if (hand == 2 * n) {
            if (!once || !heldTwice(with)) ways[rings(with)]++;
            return;
        }
        for (int other = hand + 1; other < 2 * n; other++) {
            if (with[other] == 0 && other / 2 != hand / 2) {
                with[hand] = other + 1;
                with[other] = hand + 1;
                match(n, once, with, hand + 1, ways);
                with[hand] = 0;
                with[other] = 0;
            }
        }
    }

    private static boolean heldTwice(int[] with) {
        for (int p = 0; p < with.length; p += 2) if ((with[p] - 1) / 2 == (with[p + 1] - 1) / 2) return true;
        return false;
    }

    private static int rings(int[] with) {
        boolean[] seen = new boolean[with.length];
        int rings = 0;
        for (int p = 0; p < with.length; p += 2) {
            if (!seen[p]) rings++;
            for (int hand = p; !seen[hand / 2 * 2]; hand = with[hand] - 1 ^ 1) seen[hand / 2 * 2] = true;
        }
        return rings;
    }

    /** Pairings in which nobody holds his own, by taking away and adding those of k who do. */
    private static long pairings(int n) {
        long sum = 0;
        long choose = 1;
        for (int k = 0; k <= n; k++) {
            long free = 1;
            for (int i = 2 * (n - k) - 1; i > 1; i -= 2) free *= i;
            sum += (k % 2 == 0 ? 1 : -1) * choose * free;
            choose = choose * (n - k) / (k + 1);
        }
        return sum;
    }

    private static void acts() {
        HandKnot k = of(SLIP);
        refused(39, "it can't", k, k.move(0), -1, 5);
        refused(39, "no such number", k, k.move(2), -1, 1);
        due(39, "a slip", k.move(101), 0);
        refused(39, "gone", k, k.move(101), -1, 5);
        refused(41, "gone", k, k.lifts(0), -100, 5);
        refused(41, "no crossing", k, k.lifts(2), -100, 1);
        refused(41, "crossing -1", k, k.lifts(-1), -100, 1);
        refused(42, "none may be", k, k.lot(), -1, 6);
        refused(43, "none may be", k, k.call(), -1, 6);
        due(42, "a lot refused draws nothing", k.size(8), 0);
        due(49, "one act", k.size(9), 1);
        HandKnot l = of(SLIP);
        due(41, "lifted", l.lifts(1), -1);
        due(11, "over is under", l.stands(1), 2);
        due(11, "under is over", l.stands(3), 3);
        due(39, "a turn", of(NEST).move(0), 1);
        lots();
        HandKnot c = of(STEP);
        due(43, "a call", c.call(), 1012);
        due(43, "the next", c.call(), 1);
        due(14, "left", c.left(), 2);
        due(49, "two acts", c.size(9), 2);
        due(44, "seed", c.seed(65536), true);
        due(49, "the seed", c.size(8), 65536);
        due(49, "no act", c.size(9), 2);
        refused(44, "seed beyond", c, c.seed(65537), 2);
        refused(44, "seed below", c, c.seed(-1), 2);
        due(44, "it stays", c.size(8), 65536);
        c.seed(0);
        due(44, "no trouble", c.trouble(), 0);
    }

    private static void lots() {
        HandKnot k = of(STEP);
        k.move(1012);
        k.seed(1000);
        // 75,074 mod 65,537 is 9,537, mod 3 it is 0: the first of 1, 102, 1012
        due(42, "a lot", k.lot(), 1);
        due(42, "the seed then", k.size(8), 9537);
        due(42, "made", k.left(), 2);
        k.undo();
        due(45, "the seed too", k.size(8), 1000);
        k.seed(0);
        // 74 mod 3 is 2
        due(42, "another lot", k.lot(), 1012);
        due(42, "its seed", k.size(8), 74);
        k.seed(65536);
        // 75 times 65,536 and 74 is -75 and 74, so -1, mod 65,537: 65,536; one may be
        due(42, "from the last seed", k.lot(), 1012);
        due(42, "to itself", k.size(8), 65536);
    }

    private static void history() {
        HandKnot k = of(SLIP);
        for (int i = 0; i < 19; i++) {
            k.seed(i);
            k.lifts(0);
            due(49, "acts kept", k.size(9), Math.min(i + 1, 16));
        }
        due(13, "lifted 19 times", k.sign(0), 1);
        for (int i = 0; i < 16; i++) {
            due(45, "undo " + i, k.undo(), true);
            due(45, "seed ahead of the latest", k.size(8), 18 - i);
            due(45, "no trouble", k.trouble(), 0);
        }
        due(13, "lifted thrice", k.sign(0), 1);
        refused(45, "sixteen are kept", k, k.undo(), 6);
        HandKnot p = of(NEST);
        p.parts(0);
        p.undo();
        due(45, "nothing parted", p.size(7), -2);
        due(45, "all back", p.left(), 2);
        due(46, "mark 0", p.mark(), 0);
        p.seed(77);
        p.lifts(1);
        due(46, "mark 1", p.mark(), 1);
        p.parts(1);
        due(46, "mark 2", p.mark(), 2);
        refused(46, "three are all", p, p.mark(), -1, 3);
        due(49, "three marks", p.size(10), 3);
        due(47, "back to 0", p.back(0), true);
        due(47, "as by the mark", p.sign(1), 1);
        due(47, "the seed too", p.size(8), 0);
        due(47, "nothing is parted", p.size(7), -2);
        due(47, "marks stay", p.size(10), 3);
        due(47, "nothing can be undone", p.size(9), 0);
        refused(47, "nothing at all", p, p.undo(), 6);
        due(47, "back to 2", p.back(2), true);
        due(47, "parted", p.size(7), 1);
        due(47, "its seed", p.size(8), 77);
        due(47, "its sign", p.sign(1), -1);
        refused(47, "no mark 3", p, p.back(3), 1);
        refused(47, "no mark -1", p, p.back(-1), 1);
        HandKnot m = of(NEST);
        m.mark();
        m.move(0);
        m.undo();
        due(46, "marks stay when an act is undone", m.size(10), 1);
    }

    private static void told() {
        HandKnot k = of(TWO + ";cross l 1 over l 2 plus;cross l 3 over l 4 plus;cross l 5 over l 6 plus");
        due(48, "the first", led(k, 0), 0);
        due(48, "the third", led(k, 2), 2);
        due(48, "no fourth", led(k, 3), -7);
        due(48, "none at -1", led(k, -1), -7);
        k.move(1);
        due(48, "the second then", led(k, 1), 2);
        due(48, "no third then", led(k, 2), -7);
        due(48, "none without a tangle", led(new HandKnot(), 0), -7);
        int[] sizes = {2, 2, 1, 3, 6, 50, 0, -2, 0, 1, 0, 0};
        for (int i = 0; i < sizes.length; i++) due(49, "size " + i, k.size(i), sizes[i]);
        due(49, "size 12", k.size(12), -1);
        due(49, "size -1", k.size(-1), -1);
    }

    private interface Call {
        void on(HandKnot k);
    }

    /** Calls that aren't refused, each behind one that was. */
    private static void noTrouble() {
        Call[] calls = {k -> k.ring(0), k -> k.people(0), k -> k.member(0, 0), k -> k.holds(0, true), k -> k.along(0),
            k -> k.stands(0), k -> k.place(0, 0), k -> k.sign(0), k -> k.left(), k -> k.loose(), k -> k.may(0),
            k -> k.goer(102), k -> k.moves(), k -> k.moveAt(0), k -> k.fewest(0), k -> k.next(1), k -> k.caller(),
            k -> k.hang(0, 1), k -> k.colours(3), k -> k.cannot(), k -> k.part(0), k -> k.lift(0), k -> k.twist(0),
            k -> k.arcs(), k -> k.reached(0), k -> k.few(0), k -> k.sees(0), k -> k.own(0), k -> k.rounds(0),
            k -> k.tries(0, 1, 0), k -> k.ways(2, 0, true), k -> k.odds(3, 0, true, true), k -> k.mean(3, true, true),
            k -> k.move(102), k -> k.parts(0), k -> k.lifts(0), k -> k.lot(), k -> k.call(), k -> k.seed(0),
            k -> k.mark()};
        String text = FOUR + ";cross l 1 over p 1 plus;cross l 5 over l 6 plus;cross l 2 over p 2 minus";
        for (int i = 0; i < calls.length; i++) {
            HandKnot k = of(text);
            k.seed(-1);
            calls[i].on(k);
            due(50, "call " + i + " that isn't refused", k.trouble(), 0);
        }
        HandKnot k = of(text);
        k.seed(-1);
        read(k, text);
        due(50, "a text that isn't refused", k.trouble(), 0);
        k.mark();
        k.seed(-1);
        k.back(0);
        due(50, "a mark that isn't refused", k.trouble(), 0);
    }

    /** Calls of which no number is told leave TROUBLE as it is. */
    private static void trouble() {
        HandKnot k = of(TWO);
        k.seed(-1);
        k.feed(0, 0, 0, 0, 0);
        k.size(0);
        k.size(99);
        k.fault();
        k.where();
        led(k, 0);
        due(50, "trouble stays", k.trouble(), 2);
        due(50, "trouble asked again", k.trouble(), 2);
        k.left();
        due(50, "a call that isn't refused", k.trouble(), 0);
        k.tangle(20);
        read(k, "tangle tall 9");
        k.feed(0x20202020, 0x20202020, 0x20202020, 0x20202020, 0x20202020);
        due(5, "where, behind feed", k.where(), 13);
        k.left();
        due(5, "where, behind another call", k.where(), -1);
        due(4, "the fault stays", k.fault(), 6);
        k.tangle(-5);
        due(4, "refused by 2, it stays", k.fault(), 6);
        feed(k, TWO);
        due(3, "behind twenty blanks", k.tangle(20 + TWO.length()), 1);
        due(4, "no fault", k.fault(), 0);
    }
}
