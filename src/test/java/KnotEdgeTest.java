/** Edges of what stands where: RINGS, PASSES, SIGNS, what is BESIDE what, MOVES, GOERS, a LINK that was parted. */
public final class KnotEdgeTest extends Checks {
    /** One after the other by left hands, so gone along; the last one closes the RING. */
    private static final String THREE = ";hold l a left b right;hold m b left c right;hold n c left a right";
    private static final String PEOPLE = "tangle tall 9;person a tall 1;person b tall 1;person c tall 1";

    public static void main(String[] args) {
        oneRing();
        fourRings();
        leftHandFirst();
        passesByRing();
        signs();
        besideRound();
        besideInOneRing();
        turns();
        slips();
        steps();
        stepsBySigns();
        numbers();
        listed();
        goersOfSlips();
        goersOfSteps();
        goersBetweenRings();
        openRing();
        openAnywhere();
        otherRingStaysClosed();
        partedOnce();
        everyLinkParts();
        lifted();
        gone();
        end();
    }

    private static String tall(int tangle, int a, int b, int c) {
        return "tangle tall " + tangle + ";person a tall " + a + ";person b tall " + b + ";person c tall " + c + THREE;
    }

    private static void stands(String what, HandKnot k, int... due) {
        for (int s = 0; s < due.length; s++) due(11, what + ", standing " + s, k.stands(s), due[s]);
        refused(11, what + ", no standing beyond", k, k.stands(due.length), -1, 1);
    }

    // ---- RINGS

    private static void oneRing() {
        HandKnot k = of(ringOf(8, ""));
        due(7, "all eight", k.people(0), 8);
        for (int p = 0; p < 8; p++) {
            due(6, "ring of " + p, k.ring(p), 0);
            due(8, "member " + p, k.member(0, p), p);
            due(9, p + "'s left", k.holds(p, false), 2 * ((p + 1) % 8) + 1);
            due(9, p + "'s right", k.holds(p, true), 2 * ((p + 7) % 8));
            due(10, "link " + p, k.along(p), 1);
        }
        for (int p : new int[] {-1, 8, Integer.MIN_VALUE, Integer.MAX_VALUE}) {
            refused(6, "ring of " + p, k, k.ring(p), -1, 1);
            refused(9, p + "'s left", k, k.holds(p, false), -1, 1);
            refused(9, p + "'s right", k, k.holds(p, true), -1, 1);
            refused(10, "link " + p, k, k.along(p), -1, 1);
            refused(8, "member " + p, k, k.member(0, p), -1, 1);
        }
        for (int r : new int[] {-1, 1, Integer.MIN_VALUE, Integer.MAX_VALUE}) {
            refused(7, "people of ring " + r, k, k.people(r), -1, 1);
            refused(8, "member of ring " + r, k, k.member(r, 0), -1, 1);
        }
    }

    private static void fourRings() {
        // 0 with 7, 1 with 6, 2 with 5, 3 with 4; the links are told from the last ring on
        StringBuilder s = new StringBuilder("tangle tall 9" + times(8, ";person p# tall 9"));
        for (char p = 'd'; p >= 'a'; p--) {
            char o = (char) ('a' + 'h' - p);
            s.append(";hold l" + p + " p" + o + " left p" + p + " right;hold l" + o + " p" + o + " right p" + p + " left");
        }
        HandKnot k = of(s.toString());
        due(3, "four rings", k.size(2), 4);
        for (int p = 0; p < 8; p++) due(6, "by their least person, " + p, k.ring(p), Math.min(p, 7 - p));
        for (int r = 0; r < 4; r++) {
            due(7, "two in ring " + r, k.people(r), 2);
            due(8, "its least", k.member(r, 0), r);
            due(8, "the other", k.member(r, 1), 7 - r);
            refused(8, "no third", k, k.member(r, 2), -1, 1);
        }
        refused(7, "no fifth ring", k, k.people(4), -1, 1);
        // by the least one's left hand: its second link, told from the other person to him
        for (int l = 0; l < 8; l++) due(10, "link " + l, k.along(l), l % 2 == 0 ? 1 : 0);
    }

    private static void leftHandFirst() {
        // a's left is held by c, so c comes next
        HandKnot k = of(PEOPLE + ";hold l b left a right;hold m c left b right;hold n a left c right");
        int[] members = {0, 2, 1};
        for (int i = 0; i < 3; i++) due(8, "by his left hand, " + i, k.member(0, i), members[i]);
        for (int l = 0; l < 3; l++) due(10, "gone along, " + l, k.along(l), 1);
        HandKnot back = of(PEOPLE + ";hold l a right b left;hold m b right c left;hold n c right a left");
        for (int l = 0; l < 3; l++) due(10, "gone against, " + l, back.along(l), 0);
    }

    // ---- PASSES and SIGNS

    private static void passesByRing() {
        // the link of a's left hand comes first, though it is told last; m is gone along, l against
        HandKnot k = of("tangle tall 9;person a tall 1;person b tall 1;hold l a right b right;hold m a left b left;"
            + "cross l 9 over m 9 plus;cross m 1 over l 1 minus");
        due(10, "m", k.along(1), 1);
        due(10, "l", k.along(0), 0);
        stands("m from 1 to 9, l from 9 to 1", k, 3, 0, 1, 2);
        int[] links = {1, 1, 0, 0};
        for (int s = 0; s < 4; s++) due(12, "link of standing " + s, k.place(s, 1), links[s]);
        stands("nothing told", of(TWO));
        // ring 1's link is told first, but its passes stand behind those of ring 0
        HandKnot two = of("tangle tall 9;person a tall 1;person b tall 1;person c tall 1;person d tall 1;hold p c left d left;"
            + "hold q c right d right;hold l a left b left;hold m a right b right;cross p 1 over l 1 plus;cross q 1 over m 1 plus");
        stands("ring by ring", two, 0, 2, 1, 3);
        for (int s = 0; s < 4; s++) due(12, "ring of standing " + s, two.place(s, 0), s / 2);
    }

    /** Turned if just one of its two LINKS is gone against. */
    private static void signs() {
        HandKnot k = of("tangle tall 9" + times(4, ";person p# tall 9") + ";hold l pa left pb right;hold m pc right pb left;"
            + "hold n pc left pd right;hold o pa right pd left;cross l 1 over n 1 plus;cross m 1 over o 1 plus;"
            + "cross l 2 over m 2 plus;cross m 3 over l 3 plus;cross m 4 over m 5 plus;cross o 2 over n 2 minus;"
            + "cross n 3 over n 4 minus");
        int[] along = {1, 0, 1, 0};
        for (int l = 0; l < 4; l++) due(10, "link " + l, k.along(l), along[l]);
        String[] what = {"both along", "both against", "the under one against", "the over one against", "itself, against",
            "minus, the over one against", "minus, itself, along"};
        int[] signs = {1, 1, -1, -1, 1, 1, -1};
        for (int x = 0; x < 7; x++) due(13, what[x], k.sign(x), signs[x]);
        for (int x = 0; x < 7; x++) {
            due(41, what[x] + ", lifted", k.lifts(x), -signs[x]);
            due(13, what[x] + ", lifted", k.sign(x), -signs[x]);
            due(41, what[x] + ", lifted twice", k.lifts(x), signs[x]);
        }
        for (int x : new int[] {-1, 7, Integer.MIN_VALUE, Integer.MAX_VALUE}) {
            refused(13, "crossing " + x, k, k.sign(x), -100, 1);
            refused(41, "crossing " + x, k, k.lifts(x), -100, 1);
        }
    }

    // ---- BESIDE

    private static void besideRound() {
        due(16, "just two", of(TWO + ";cross l 1 over m 1 plus").may(0), 1);
        due(16, "nothing between on the one side", of(FOUR + ";cross l 3 over l 4 plus;cross l 1 over p 1 plus").may(0), 1);
        due(16, "nothing between on the other", of(FOUR + ";cross l 1 over l 5 plus;cross l 3 over p 1 plus").may(0), 1);
        due(16, "one between on each", of(FOUR + ";cross l 1 over l 5 plus;cross l 3 over p 1 plus;cross m 1 over p 2 plus").may(0), 0);
        due(16, "an under one between on each", of(FOUR + ";cross l 1 over l 5 plus;cross p 1 over l 3 plus;cross p 2 over m 1 plus").may(0), 0);
    }

    private static void besideInOneRing() {
        HandKnot k = of(FOUR + ";cross l 1 over p 1 plus");
        due(16, "alone, each in a ring of its own", k.may(0), 0);
        due(18, "none may be", k.moves(), 0);
        due(20, "never loose", k.fewest(8), -2);
        refused(17, "it can't", k, k.goer(0), -1, 5);
        // at the end of one ring and at the beginning of the next
        HandKnot ends = of(FOUR + ";cross m 1 over p 1 plus;cross l 1 over l 2 plus;cross q 1 over q 2 plus");
        stands("the last of one, the first of the next", ends, 3, 2, 1, 0, 4, 5);
        due(16, "no neighbours", ends.may(0), 0);
    }

    // ---- MOVES

    private static void turns() {
        for (String sign : new String[] {"plus", "minus"}) {
            HandKnot k = of("tangle tall 0;person a tall 99;person b tall 99;hold l a left b left;hold m a right b right;"
                + "cross l 1 over l 2 " + sign);
            due(16, "however tall, " + sign, k.may(0), 1);
            due(17, "nobody goes", k.goer(0), -2);
            due(39, "it is gone", k.move(0), 0);
            refused(17, "it can't any more", k, k.goer(0), -1, 5);
            refused(39, "it may not any more", k, k.move(0), -1, 5);
            due(16, "it may not", k.may(0), 0);
        }
    }

    private static void slips() {
        String two = TWO + ";cross l 1 over m 5 plus;cross l 3 over m 3 minus";
        due(16, "a third elsewhere", of(two + ";cross m 1 over m 2 plus").may(101), 1);
        due(16, "one between the over ones", of(two + ";cross l 2 over m 1 plus").may(101), 0);
        due(16, "an under one between the over ones", of(two + ";cross m 1 over l 2 plus").may(101), 0);
        due(16, "one between the under ones", of(two + ";cross m 1 over m 4 plus").may(101), 0);
        due(16, "an over one between the under ones", of(two + ";cross m 4 over m 1 plus").may(101), 0);
        due(16, "minus and plus", of(TWO + ";cross l 1 over m 5 minus;cross l 3 over m 3 plus").may(101), 1);
        due(16, "plus and plus", of(two.replace("minus", "plus")).may(101), 0);
        HandKnot like = of(two.replace("plus", "minus") + ";cross m 1 over l 9 plus");
        due(16, "minus and minus", like.may(101), 0);
        refused(17, "signs that are like", like, like.goer(101), -1, 5);
        refused(39, "signs that are like", like, like.move(101), -1, 5);
        due(41, "lifted, it is unlike, but not over any more", like.lifts(1), -1);
        due(16, "over by under", like.may(101), 0);
        HandKnot apart = of(TWO + ";cross l 1 over m 5 plus;cross m 4 over l 2 minus;cross m 1 over l 9 plus");
        stands("the one over beside the other under", apart, 1, 2, 4, 0, 3, 5);
        due(16, "over by under, under by over", apart.may(101), 0);
        HandKnot k = of(two + ";cross m 1 over m 2 plus");
        due(39, "both are gone", k.move(101), 1);
        stands("behind a slip", k, -2, -2, -2, -2, 4, 5);
        due(13, "the first", k.sign(0), 0);
        due(13, "the second", k.sign(1), 0);
        due(13, "not the third", k.sign(2), 1);
    }

    private static void steps() {
        String step = TWO + ";cross l 1 over l 4 plus;cross l 3 over l 7 plus;cross l 6 over l 9 minus";
        due(16, "a fourth elsewhere", of(step + ";cross m 1 over m 2 plus").may(1012), 1);
        due(16, "one between over a and over b", of(step + ";cross l 2 over m 1 plus").may(1012), 0);
        due(16, "one between under a and over c", of(step + ";cross l 5 over m 1 plus").may(1012), 0);
        due(16, "one between under b and under c", of(step + ";cross l 8 over m 1 plus").may(1012), 0);
        due(16, "an under one between", of(step + ";cross m 1 over l 8 plus").may(1012), 0);
        for (int other : new int[] {1021, 1102, 1120, 1201, 1210}) {
            HandKnot k = of(step);
            due(16, "in another order " + other, k.may(other), 0);
            refused(17, "in another order " + other, k, k.goer(other), -1, 5);
            refused(39, "in another order " + other, k, k.move(other), -1, 5);
        }
        for (int like : new int[] {1000, 1001, 1010, 1011, 1022}) {
            HandKnot k = of(step);
            refused(16, "like ones " + like, k, k.may(like), -1, 1);
            refused(17, "like ones " + like, k, k.goer(like), -1, 1);
            refused(39, "like ones " + like, k, k.move(like), -1, 1);
        }
        HandKnot k = of(step + ";cross m 1 over m 2 plus");
        stands("ahead of a step", k, 1, 3, 0, 5, 2, 4, 6, 7);
        due(39, "as many are left", k.move(1012), 4);
        stands("each two have changed places", k, 3, 1, 5, 0, 4, 2, 6, 7);
        for (int x = 0; x < 4; x++) due(13, "signs stay " + x, k.sign(x), x == 2 ? -1 : 1);
        due(39, "back again", k.move(1012), 4);
        stands("as it was", k, 1, 3, 0, 5, 2, 4, 6, 7);
    }

    private static void stepsBySigns() {
        for (int bits = 0; bits < 8; bits++) {
            String[] signs = new String[3];
            for (int i = 0; i < 3; i++) signs[i] = (bits >> i & 1) == 0 ? " minus" : " plus";
            HandKnot k = of(TWO + ";cross l 1 over l 4" + signs[0] + ";cross l 3 over l 7" + signs[1] + ";cross l 6 over l 9" + signs[2]);
            due(16, "whatever its signs are " + bits, k.may(1012), 1);
        }
    }

    /** With seven CROSSINGS each number that is one is told. */
    private static void numbers() {
        HandKnot k = of(ringOf(8, "") + times(7, ";cross h# 1 over h# 9 plus"));
        int many = 0;
        for (int n = -300; n < 3000; n++) {
            int x = n / 100 % 10;
            int y = n / 10 % 10;
            int z = n % 10;
            boolean turn = n >= 0 && n < 7;
            boolean slip = n >= 100 && n < 200 && y < z && z < 7;
            boolean step = n >= 1000 && n < 2000 && x < 7 && y < 7 && z < 7 && x != y && y != z && x != z;
            boolean is = turn || slip || step;
            int due = !is ? -1 : turn ? 1 : 0;
            due(16, "number " + n, k.may(n), due);
            due(50, "number " + n, k.trouble(), is ? 0 : 1);
            if (k.goer(n) == -1) due(17, "number " + n, k.trouble(), is ? 5 : 1);
            many += is ? 1 : 0;
            if (n % 100 == 99) k = of(ringOf(8, "") + times(7, ";cross h# 1 over h# 9 plus"));
        }
        due(16, "turns, slips, steps", many, 7 + 21 + 210);
        for (int n : new int[] {Integer.MIN_VALUE, Integer.MAX_VALUE, -101, -1012, 10101, 11012}) {
            refused(16, "number " + n, k, k.may(n), -1, 1);
            refused(17, "number " + n, k, k.goer(n), -1, 1);
            refused(39, "number " + n, k, k.move(n), -1, 1);
        }
    }

    private static void listed() {
        // 0 and 1 slip, 2 turns, 3 turns
        HandKnot k = of(ringOf(4, "") + ";cross ha 1 over hb 1 plus;cross ha 2 over hb 2 minus;cross hc 1 over hc 2 plus;"
            + "cross hd 1 over hd 2 plus");
        int at = 0;
        for (int n = 0; n < 400; n++) {
            if (k.may(n) != 1) continue;
            due(19, "by numbers, " + at, k.moveAt(at), n);
            at++;
        }
        due(18, "as many", k.moves(), at);
        due(18, "three", at, 3);
        refused(19, "no more", k, k.moveAt(at), -1, 1);
        refused(19, "none ahead", k, k.moveAt(-1), -1, 1);
        refused(19, "far", k, k.moveAt(Integer.MAX_VALUE), -1, 1);
    }

    // ---- GOERS

    private static void goersOfSlips() {
        // the under pass of 1 stands first, on m (b and c); that of 0 on n (c and a)
        String slip = ";cross l 1 over n 1 plus;cross l 2 over m 1 minus";
        HandKnot k = of(tall(5, 1, 9, 5) + slip);
        stands("1 is under first", k, 1, 3, 2, 0);
        due(17, "of b and c the less tall", k.goer(101), 2);
        due(16, "as tall as tall", k.may(101), 1);
        HandKnot low = of(tall(4, 1, 9, 5) + slip);
        due(16, "taller than tall, though a isn't", low.may(101), 0);
        due(17, "may or not", low.goer(101), 2);
        due(18, "only those that turn", low.moves(), 2);
        refused(39, "he may not", low, low.move(101), -1, 5);
        due(17, "b, of like ones", of(tall(5, 1, 5, 5) + slip).goer(101), 1);
        due(17, "told from c to b", of((tall(5, 1, 5, 5) + slip).replace("b left c right", "c right b left").replace("minus", "plus")).goer(101), 1);
    }

    private static void goersOfSteps() {
        // over a, over b, under a, over c on l (a and b), under b on m (b and c), under c on n (c and a)
        String step = ";cross l 1 over l 3 plus;cross l 2 over m 1 plus;cross l 4 over n 1 plus";
        HandKnot k = of(tall(5, 1, 9, 5) + step);
        due(17, "of the under ones of b and c", k.goer(1012), 2);
        due(16, "as tall as tall", k.may(1012), 1);
        due(39, "made", k.move(1012), 3);
        due(17, "by what stands there then", k.goer(1012), 2);
        HandKnot low = of(tall(4, 1, 9, 5) + step);
        due(16, "taller than tall", low.may(1012), 0);
        due(17, "may or not", low.goer(1012), 2);
        refused(39, "he may not", low, low.move(1012), -1, 5);
        due(20, "nor is it looked through", low.fewest(8), -2);
        due(30, "nor come to", low.reached(8), 1);
    }

    private static void goersBetweenRings() {
        HandKnot k = of(FOUR + ";cross l 1 over p 1 plus;cross l 2 over p 2 minus");
        due(17, "of the ring that is under", k.goer(101), 2);
        due(39, "between two rings", k.move(101), 0);
        due(15, "loose", k.loose(), 1);
    }

    // ---- PARTED

    private static void openRing() {
        HandKnot k = of(PEOPLE + THREE + ";cross l 2 over n 1 plus;cross l 1 over n 2 plus");
        stands("the one within the other", k, 3, 1, 0, 2);
        due(16, "over m", k.may(0), 1);
        due(16, "round", k.may(1), 1);
        due(29, "arcs", k.arcs(), 2);
        due(40, "nothing stands on m", k.parts(1), 0);
        due(14, "all are left", k.left(), 2);
        due(16, "not over the link that was parted", k.may(0), 0);
        refused(39, "it may not", k, k.move(0), -1, 5);
        due(16, "still round, where it isn't open", k.may(1), 1);
        due(29, "one arc more", k.arcs(), 3);
        due(39, "made", k.move(1), 1);
        due(29, "from its end to its end", k.arcs(), 2);
        due(16, "nothing between on the other side", k.may(0), 1);
        due(39, "made too", k.move(0), 0);
        due(29, "an open one without", k.arcs(), 1);
        due(24, "its colours", k.colours(3), 1);
        due(25, "nothing against it", k.cannot(), 0);
        k.undo();
        k.undo();
        k.undo();
        due(16, "closed again", k.may(0), 1);
        due(29, "its arcs", k.arcs(), 2);
        due(49, "nothing is parted", k.size(7), -2);
    }

    /** Whichever LINK is parted, the two on both sides of it aren't BESIDE each other over it. */
    private static void openAnywhere() {
        for (int l = 0; l < 8; l++) {
            String ahead = "h" + (char) ('a' + (l + 7) % 8);
            String behind = "h" + (char) ('a' + (l + 1) % 8);
            HandKnot k = of(ringOf(8, "") + ";cross " + ahead + " 9 over " + behind + " 1 plus;cross " + ahead + " 1 over " + behind + " 9 plus");
            due(16, "over link " + l, k.may(0), 1);
            due(16, "round from link " + l, k.may(1), 1);
            due(40, "nothing stands on link " + l, k.parts(l), 0);
            due(16, "not over link " + l, k.may(0), 0);
            due(16, "still round from link " + l, k.may(1), 1);
            due(29, "one arc more, open at " + l, k.arcs(), 3);
            due(20, "by two, open at " + l, k.fewest(8), 2);
            due(21, "the outer one first, open at " + l, k.next(8), 1);
            due(22, "it is called, open at " + l, k.caller(), 1);
            due(34, "in two rounds, or by two in one, open at " + l, k.rounds(2), 0);
        }
    }

    private static void otherRingStaysClosed() {
        HandKnot k = of(FOUR + ";cross l 1 over l 4 plus;cross l 2 over l 3 plus");
        due(29, "two, and one without", k.arcs(), 3);
        due(40, "in the other ring", k.parts(2), 0);
        due(16, "this one is closed", k.may(0), 1);
        due(29, "the open one is one still", k.arcs(), 3);
        due(24, "as many as rings", k.colours(3), 2);
    }

    private static void partedOnce() {
        HandKnot k = of(NEST);
        due(40, "let go", k.parts(1), 0);
        refused(40, "the same", k, k.parts(1), -1, 5);
        refused(40, "another", k, k.parts(0), -1, 5);
        for (int l : new int[] {-1, 2, Integer.MIN_VALUE, Integer.MAX_VALUE}) refused(40, "link " + l, k, k.parts(l), -1, 1);
        due(49, "no act more", k.size(9), 1);
        due(14, "nothing is gone", k.left(), 2);
        due(45, "held again", k.undo(), true);
        due(40, "now another", k.parts(0), 2);
        due(49, "that one", k.size(7), 0);
        due(14, "all are gone", k.left(), 0);
        due(3, "another tangle", read(k, NEST), 1);
        due(40, "of it too", k.parts(0), 2);
    }

    private static void everyLinkParts() {
        String text = ringOf(8, "") + times(7, ";cross h# 1 over h$ 9 plus").replace("ha 9", "hh 9");
        for (int l = 0; l < 8; l++) {
            HandKnot k = of(text);
            int due = l == 0 || l == 7 ? 1 : 2;
            due(40, "what stands on " + l, k.parts(l), due);
            due(49, "parted " + l, k.size(7), l);
            due(14, "left without " + l, k.left(), 7 - due);
            for (int x = 0; x < 7; x++) due(13, x + " without " + l, k.sign(x) == 0, x == l || (x + 1) % 8 == l);
        }
    }

    // ---- LIFT, and what is gone

    private static void lifted() {
        HandKnot k = of(TREFOIL);
        stands("as told", k, 1, 2, 5, 0, 3, 4);
        due(41, "its sign then", k.lifts(1), -1);
        stands("what was over is under", k, 1, 3, 5, 0, 2, 4);
        due(13, "the others stay", k.sign(0) + k.sign(2), 2);
        due(14, "all are left", k.left(), 3);
        due(41, "again", k.lifts(1), 1);
        stands("as it was", k, 1, 2, 5, 0, 3, 4);
        due(49, "two acts", k.size(9), 2);
    }

    private static void gone() {
        HandKnot k = of(NEST);
        k.move(0);
        refused(41, "a crossing that is gone", k, k.lifts(0), -100, 5);
        refused(41, "a crossing that was never told", k, k.lifts(2), -100, 1);
        due(13, "a crossing that is gone", k.sign(0), 0);
        due(16, "it may not turn", k.may(0), 0);
        due(16, "nor slip", k.may(101), 0);
        due(11, "where it stood", k.stands(0), -2);
        due(12, "the standing is told still", k.place(0, 1), 0);
        due(49, "as many crossings told", k.size(3), 2);
        due(49, "as many standings", k.size(4), 4);
        due(14, "one is left", k.left(), 1);
        due(48, "that one", led(k, 0), 1);
        due(48, "no other", led(k, 1), -7);
        due(15, "not loose", k.loose(), 0);
        k.move(1);
        due(15, "loose", k.loose(), 1);
        due(48, "none", led(k, 0), -7);
    }
}
