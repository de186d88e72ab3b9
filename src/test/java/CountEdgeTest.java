/** Edges of what is counted: FEWEST, NEXT, COLOURS, HANG, BEST PART and LIFT, those within, WAYS. */
public final class CountEdgeTest extends Checks {
    private static final int[] NO_DEPTHS = {-1, 9, 10, Integer.MIN_VALUE, Integer.MAX_VALUE};
    /** Seven that turn, each by itself, and nothing else. */
    private static final String SEVEN = ringOf(8, "") + times(7, ";cross h# 1 over h# 9 plus");
    /** One turn in another; both go by one slip, too. */
    private static final String EITHER = TWO + ";cross l 1 over l 4 plus;cross l 2 over l 3 minus";
    /** 0 turns, 1 and 2 slip, 3 and 4 slip. */
    private static final String SLIPS = ringOf(4, "") + ";cross ha 1 over ha 2 plus;cross ha 3 over hb 1 plus;"
        + "cross ha 4 over hb 2 minus;cross hc 1 over hd 1 plus;cross hc 2 over hd 2 minus";
    /** LOOSE by eight MOVES, not by seven; of all such texts that were found, most can be come to by this one. */
    private static final String EIGHT = "tangle tall 9;person a tall 1;person b tall 1;hold l a left b left;"
        + "hold m b right a right;cross m 6 over m 1 plus;cross m 7 over l 7 plus;cross l 2 over l 5 plus;"
        + "cross l 1 over m 5 plus;cross l 6 over m 2 plus;cross l 3 over m 3 minus;cross l 4 over m 4 plus";

    public static void main(String[] args) {
        depths();
        searchesOfSeven();
        searchesOfEight();
        wayOfEight();
        liftToEight();
        searchesOfNone();
        shortestWays();
        callers();
        callersOfAll();
        hang();
        twist();
        numbersOfColours();
        arcs();
        openArcs();
        cannot();
        parts();
        lifts();
        liftsOfWhatIsLeft();
        sees();
        seesAllOfIt();
        rounds();
        secondRound();
        tries();
        ways();
        odds();
        means();
        end();
    }

    // ---- FEWEST, NEXT, REACHED, FEW

    private static void depths() {
        HandKnot k = of(NEST);
        for (int d : NO_DEPTHS) {
            refused(20, "fewest in " + d, k, k.fewest(d), -1, 2);
            refused(21, "next in " + d, k, k.next(d), -1, 2);
            refused(26, "part in " + d, k, k.part(d), -1, 2);
            refused(27, "lift in " + d, k, k.lift(d), -1, 2);
            refused(30, "reached in " + d, k, k.reached(d), -1, 2);
            refused(31, "few in " + d, k, k.few(d), -1, 2);
        }
        refused(21, "next in 0", k, k.next(0), -1, 2);
        due(20, "fewest in 0", k.fewest(0), -2);
        due(26, "part in 0", k.part(0), 0);
        due(27, "lift in 0", k.lift(0), -2);
        due(30, "reached in 0", k.reached(0), 1);
        due(31, "few in 0", k.few(0), 2);
        due(21, "next in 1", k.next(1), -2);
        due(50, "none of these was refused", k.trouble(), 0);
    }

    private static void searchesOfSeven() {
        HandKnot k = of(SEVEN);
        int[] reached = {1, 8, 29, 64, 99, 120, 127, 128, 128};
        for (int d = 0; d <= 8; d++) {
            due(20, "fewest in " + d, k.fewest(d), d < 7 ? -2 : 7);
            if (d > 0) due(21, "next in " + d, k.next(d), d < 7 ? -2 : 0);
            due(30, "reached in " + d, k.reached(d), reached[d]);
            due(31, "few in " + d, k.few(d), Math.max(0, 7 - d));
        }
        due(39, "made", k.move(0), 6);
        due(20, "one less", k.fewest(6), 6);
        due(21, "the next one", k.next(6), 1);
        due(14, "asking changes nothing", k.left(), 6);
    }

    /** LOOSE comes at the last depth that there is. */
    private static void searchesOfEight() {
        HandKnot k = of(EIGHT);
        int[] reached = {1, 7, 27, 80, 204, 444, 919, 1730, 3144};
        int[] few = {7, 5, 4, 4, 3, 3, 2, 1, 0};
        for (int d = 0; d <= 8; d++) {
            due(20, "loose by eight: fewest in " + d, k.fewest(d), d < 8 ? -2 : 8);
            if (d > 0) due(21, "loose by eight: next in " + d, k.next(d), d < 8 ? -2 : 156);
            due(30, "loose by eight: reached in " + d, k.reached(d), reached[d]);
            due(31, "loose by eight: few in " + d, k.few(d), few[d]);
        }
        due(25, "loose by eight: nothing against it", k.cannot(), 0);
    }

    /** Each NEXT leads to where FEWEST is one less; all of them are undone again. */
    private static void wayOfEight() {
        HandKnot k = of(EIGHT);
        int[] way = {156, 2, 1104, 4, 1103, 0, 1, 3};
        for (int i = 0; i < way.length; i++) {
            int d = way.length - i;
            due(20, "on the way: fewest in " + d, k.fewest(d), d);
            due(20, "on the way: not by one less than " + d, k.fewest(d - 1), -2);
            due(21, "on the way: next in " + d, k.next(d), way[i]);
            due(21, "on the way: next in 8", k.next(8), way[i]);
            due(39, "on the way: " + way[i], k.move(way[i]), new int[] {5, 4, 4, 3, 3, 2, 1, 0}[i]);
        }
        due(15, "at its end", k.loose(), 1);
        due(21, "no next", k.next(8), -2);
        for (int i = 0; i < way.length; i++) due(45, "back again", k.undo(), true);
        due(20, "by eight again", k.fewest(8), 8);
    }

    /** One CROSSING the wrong way about: LIFTED, it is LOOSE by eight; without, never in eight. */
    private static void liftToEight() {
        HandKnot k = of(EIGHT);
        due(41, "the wrong way about", k.lifts(5), 1);
        due(20, "never in eight", k.fewest(8), -2);
        due(27, "lifted again, in just eight", k.lift(8), 5);
        due(27, "none does in seven", k.lift(7), -2);
        due(50, "which is no refusal", k.trouble(), 0);
        due(13, "asking lifts nothing", k.sign(5), 1);
    }

    private static void searchesOfNone() {
        for (String text : new String[] {TWO, FOUR, ringOf(8, "")}) {
            HandKnot k = of(text);
            due(15, "loose as told", k.loose(), 1);
            due(18, "no moves", k.moves(), 0);
            refused(19, "no first move", k, k.moveAt(0), -1, 1);
            for (int d = 0; d <= 8; d += 8) {
                due(20, "fewest in " + d, k.fewest(d), 0);
                due(26, "the first link in " + d, k.part(d), 0);
                due(27, "no crossing in " + d, k.lift(d), -2);
                due(30, "itself in " + d, k.reached(d), 1);
                due(31, "few in " + d, k.few(d), 0);
            }
            due(21, "no next in 1", k.next(1), -2);
            due(21, "no next in 8", k.next(8), -2);
            due(22, "no caller", k.caller(), -2);
            due(24, "colours", k.colours(3), k.size(2));
            due(25, "nothing against it", k.cannot(), 0);
            due(29, "a ring without: one", k.arcs(), k.size(2));
            due(32, "nothing to see", k.sees(0), 0);
            due(33, "none of his own", k.own(0), -2);
            due(34, "rounds", k.rounds(9), 0);
            due(35, "tries", k.tries(0, 20, 20), 20);
            due(35, "not even one lot", k.tries(0, 3, 0), 3);
        }
    }

    private static void shortestWays() {
        HandKnot k = of(EITHER);
        due(18, "two that turn, and a slip", k.moves(), 3);
        due(20, "by the slip", k.fewest(8), 1);
        due(21, "not the least number", k.next(1), 101);
        due(21, "in 8 as in 1", k.next(8), 101);
        due(30, "itself, one of the two, none", k.reached(1), 4);
        due(30, "all there are", k.reached(8), 4);
        due(31, "few in 1", k.few(1), 0);
        due(39, "the other way", k.move(0), 1);
        due(20, "one left", k.fewest(8), 1);
        due(21, "by this", k.next(8), 1);
        due(20, "never", of(TREFOIL).fewest(8), -2);
        due(21, "no next to never", of(TREFOIL).next(8), -2);
    }

    // ---- CALLER

    private static void callers() {
        HandKnot k = of(EITHER);
        due(22, "nothing is left behind two turns: the first", k.caller(), 0);
        due(43, "called", k.call(), 0);
        due(22, "next to it none", k.caller(), 1);
        due(43, "called", k.call(), 1);
        due(22, "none may be", k.caller(), -2);
        refused(43, "none may be", k, k.call(), -1, 6);
        HandKnot s = of(SLIPS);
        due(18, "a turn and two slips", s.moves(), 3);
        due(22, "two slips leave fewer than a turn and a slip", s.caller(), 112);
        due(43, "called", s.call(), 112);
        due(22, "nothing but the other two: the first", s.caller(), 0);
        due(14, "asking changes nothing", s.left(), 3);
        // a turn and the turn round it leave two fewer, as a step and a slip do
        due(22, "as few by two that turn: the first", of(STEP + ";cross m 1 over m 4 plus;cross m 2 over m 3 plus").caller(), 4);
    }

    /** Though all seven are left behind it, and behind the next. */
    private static void callersOfAll() {
        HandKnot k = of("tangle tall 9" + times(8, ";person p# tall 9") + ";hold ha pa left pb right;hold hb pb left pc right;"
            + "hold hc pc left pd right;hold hd pd left pe right;hold he pe left pf right;hold hf pf left pa right;"
            + "hold hg pg left ph left;hold hh pg right ph right;cross ha 1 over hb 1 plus;cross ha 2 over hc 1 plus;"
            + "cross hb 2 over hc 2 plus;cross ha 3 over hg 1 plus;cross hg 2 over hb 3 plus;cross hd 1 over hg 3 plus;"
            + "cross hg 4 over hd 2 plus");
        due(18, "just steps", k.moves(), 2);
        due(19, "the first", k.moveAt(0), 1012);
        due(31, "all are left behind two", k.few(2), 7);
        due(22, "the first step is called", k.caller(), 1012);
        due(33, "it is b's own", k.own(1), 1012);
        due(33, "a doesn't see c's", k.own(0), -2);
        due(43, "it is made", k.call(), 1012);
        due(14, "seven", k.left(), 7);
    }

    // ---- HANG, TWIST

    private static void hang() {
        StringBuilder t = new StringBuilder("tangle tall 9" + times(6, ";person p# tall 9"));
        for (char p = 'a'; p < 'g'; p += 2) {
            char o = (char) (p + 1);
            t.append(";hold l" + p + " p" + p + " left p" + o + " left;hold l" + o + " p" + p + " right p" + o + " right");
        }
        String three = t.toString();
        HandKnot k = of(three + ";cross la 1 over lc 1 plus;cross lc 2 over la 2 plus;cross la 3 over lc 3 plus;"
            + "cross la 4 over le 1 minus;cross lc 4 over le 2 minus;cross le 3 over lc 5 minus;cross la 5 over la 6 plus");
        int[][] due = {{0, 1, 3}, {0, 2, -1}, {1, 2, -2}};
        for (int[] d : due) {
            due(23, d[0] + " in " + d[1], k.hang(d[0], d[1]), d[2]);
            due(23, d[1] + " in " + d[0], k.hang(d[1], d[0]), d[2]);
        }
        for (int r = 0; r < 3; r++) refused(23, "itself " + r, k, k.hang(r, r), -100, 1);
        for (int r : new int[] {-1, 3, Integer.MIN_VALUE, Integer.MAX_VALUE}) {
            refused(23, "0 in " + r, k, k.hang(0, r), -100, 1);
            refused(23, r + " in 2", k, k.hang(r, 2), -100, 1);
            refused(23, "none in itself " + r, k, k.hang(r, r), -100, 1);
            refused(28, "twist of " + r, k, k.twist(r), -100, 1);
        }
        k.lifts(3);
        due(23, "a lift turns it", k.hang(0, 2), 1);
        k.parts(4);
        due(23, "what is gone isn't counted", k.hang(0, 2), 0);
        due(23, "nor here", k.hang(1, 2), 0);
        due(23, "the others are", k.hang(0, 1), 3);
        due(25, "only the last two hang", of(three + ";cross lc 1 over le 1 plus;cross lc 2 over le 2 plus").cannot(), 1);
        due(25, "none hang", of(three + ";cross lc 1 over le 1 plus;cross lc 2 over le 2 minus").cannot(), 0);
    }

    private static void twist() {
        HandKnot k = of(FOUR + ";cross l 1 over l 2 plus;cross l 3 over m 1 plus;cross p 1 over l 4 plus;cross q 1 over q 2 minus");
        due(28, "its own, one with a link against", k.twist(0), 0);
        due(28, "the other ring's", k.twist(1), -1);
        due(23, "between them", k.hang(0, 1), 1);
        k.lifts(1);
        due(28, "a lift turns it", k.twist(0), 2);
        k.move(0);
        due(28, "what is gone isn't counted", k.twist(0), 1);
    }

    // ---- COLOURS, ARCS, CAN'T

    private static void numbersOfColours() {
        HandKnot k = of(TREFOIL);
        for (int p = -10; p < 120; p++) {
            boolean is = p == 3 || p == 5 || p == 7;
            due(24, "by " + p, k.colours(p), !is ? -1 : p == 3 ? 2 : 1);
            due(50, "by " + p, k.trouble(), is ? 0 : 2);
        }
        refused(24, "by the least number", k, k.colours(Integer.MIN_VALUE), -1, 2);
        refused(24, "by the greatest number", k, k.colours(Integer.MAX_VALUE), -1, 2);
    }

    /** So many of ring 0 over ring 1. */
    private static String over(int n, String other) {
        StringBuilder s = new StringBuilder(FOUR);
        for (int i = 1; i <= n; i++) s.append(";cross l " + i + " over p " + i + (i % 2 == 0 ? other : " plus"));
        return s.toString();
    }

    private static void arcs() {
        due(29, "one under pass, round to itself", of(TWO + ";cross l 1 over m 1 plus").arcs(), 1);
        due(24, "its colours", of(TWO + ";cross l 1 over m 1 plus").colours(3), 1);
        due(29, "seven under passes of one ring", of(SEVEN).arcs(), 7);
        for (int p = 3; p <= 7; p += 2) due(24, "seven that turn, by " + p, of(SEVEN).colours(p), 1);
        for (int n = 0; n <= 7; n++) {
            HandKnot k = of(over(n, " plus"));
            due(29, n + " over: one of ring 0, the rest of ring 1", k.arcs(), 1 + Math.max(n, 1));
            for (int p = 3; p <= 7; p += 2) due(24, n + " over, by " + p, k.colours(p), n % 2 == 0 ? 2 : 1);
            due(23, n + " over", k.hang(0, 1), n);
        }
        HandKnot k = of(NEST);
        due(29, "now", k.arcs(), 2);
        k.move(0);
        due(29, "one under pass is left", k.arcs(), 1);
        k.move(1);
        due(29, "none", k.arcs(), 1);
    }

    private static void openArcs() {
        HandKnot k = of(over(7, " plus"));
        due(40, "nothing stands on q", k.parts(3), 0);
        due(29, "from its end to its end, too", k.arcs(), 1 + 8);
        for (int p = 3; p <= 7; p += 2) due(24, "open, by " + p, k.colours(p), 2);
        due(25, "they hang still", k.cannot(), 1);
        HandKnot m = of(over(7, " plus"));
        m.parts(1);
        due(29, "the open one has no under pass: one", m.arcs(), 1 + 7);
        due(24, "the other is closed", m.colours(3), 1);
        HandKnot t = of(TREFOIL);
        due(29, "three", t.arcs(), 3);
        t.parts(1);
        due(29, "four", t.arcs(), 4);
        due(24, "open, still tied", t.colours(3), 2);
        due(25, "it can't", t.cannot(), 1);
        t.undo();
        t.parts(0);
        due(29, "one", t.arcs(), 1);
        due(25, "untied", t.cannot(), 0);
    }

    private static void cannot() {
        due(25, "as many colours as rings, but they hang", of(over(2, " plus")).cannot(), 1);
        due(25, "as many colours as rings, none hang", of(over(2, " minus")).cannot(), 0);
        HandKnot fewer = of(FOUR + ";cross l 1 over p 1 plus;cross p 2 over l 2 minus");
        due(23, "none hang", fewer.hang(0, 1), 0);
        due(24, "fewer than rings", fewer.colours(3), 1);
        due(25, "but it can't", fewer.cannot(), 1);
        HandKnot more = of(TREFOIL);
        due(24, "more than rings", more.colours(3), 2);
        due(25, "it can't", more.cannot(), 1);
        more.lifts(0);
        due(25, "not so any more", more.cannot(), 0);
        due(25, "a twist alone isn't against it", of(SEVEN).cannot(), 0);
    }

    // ---- BEST PART, BEST LIFT

    private static void parts() {
        HandKnot k = of(TWO + ";cross m 1 over m 2 plus");
        due(26, "l leaves one, m none", k.part(8), 1);
        due(26, "m at once", k.part(0), 1);
        due(26, "either at once: the first", of(TWO + ";cross l 1 over m 2 plus").part(8), 0);
        due(26, "the last link of eight", of(ringOf(8, "") + ";cross hh 1 over hh 2 plus").part(8), 7);
        due(26, "the first is best, the second does too", of(NEST).part(8), 0);
        due(26, "none at once", of(SEVEN).part(0), -2);
        due(26, "none in 5", of(SEVEN).part(5), -2);
        due(26, "the first that turns one less", of(SEVEN).part(6), 0);
        due(26, "asking changes nothing", k.left(), 1);
        due(49, "nothing is parted", k.size(7), -2);
        k.parts(0);
        refused(26, "one is parted", k, k.part(8), -1, 5);
        refused(26, "a number first", k, k.part(9), -1, 2);
        k.move(0);
        refused(26, "one is parted, though it is loose", k, k.part(0), -1, 5);
        k.undo();
        k.undo();
        due(26, "none is any more", k.part(8), 1);
    }

    private static void lifts() {
        HandKnot k = of(TREFOIL);
        due(27, "not in 1", k.lift(1), -2);
        due(27, "in 2, by any: the first", k.lift(2), 0);
        due(27, "asking changes nothing", k.sign(0), 1);
        HandKnot o = of(HOPF);
        o.parts(1);
        due(27, "though one is parted", o.lift(1), 0);
        due(50, "it isn't refused", o.trouble(), 0);
        HandKnot g = of(HOPF.replace(";cross l 1", ";cross q 1 over q 2 plus;cross l 1"));
        due(27, "one turns besides", g.lift(2), 1);
        due(39, "it is gone", g.move(0), 2);
        due(27, "only what is left", g.lift(1), 1);
        HandKnot last = of(FOUR + ";cross q 1 over q 2 plus;cross q 3 over q 4 plus;cross m 1 over m 2 plus;"
            + "cross m 3 over m 4 plus;cross m 5 over m 6 plus;cross m 7 over p 1 plus;cross p 2 over m 8 plus");
        due(27, "the last two hang: the first of these", last.lift(8), 5);
        due(27, "not in 5", last.lift(5), -2);
        due(27, "in 6", last.lift(6), 5);
    }

    private static void liftsOfWhatIsLeft() {
        HandKnot k = of(TWO + ";cross l 4 over l 1 minus;cross l 2 over l 3 minus;cross m 1 over m 2 plus");
        due(20, "three that turn", k.fewest(8), 3);
        due(27, "a slip and a turn; the last does too, in three", k.lift(8), 0);
        HandKnot n = of(NEST);
        n.move(0);
        due(27, "one is gone, the other turns, lifted or not", n.lift(8), 1);
        n.move(1);
        due(27, "both are gone", n.lift(8), -2);
        due(27, "loose at once, but none is left", n.lift(0), -2);
    }

    // ---- SEES, OWN, ROUNDS, TRIES

    private static void sees() {
        HandKnot k = of(SLIPS);
        int[] sees = {31, 7, 30, 24};
        int[] own = {112, 112, 112, 134};
        for (int p = 0; p < 4; p++) {
            due(32, "sees " + p, k.sees(p), sees[p]);
            due(33, "own " + p, k.own(p), own[p]);
        }
        for (int p : new int[] {-1, 4, Integer.MIN_VALUE, Integer.MAX_VALUE}) {
            refused(32, "sees " + p, k, k.sees(p), -1, 1);
            refused(33, "own " + p, k, k.own(p), -1, 1);
        }
        due(33, "not the first, but by which fewest are left", of(EITHER).own(0), 101);
        // c sees one of the two that slip: that isn't his own
        HandKnot half = of(ringOf(4, "") + ";cross ha 1 over hb 1 plus;cross ha 2 over hb 2 minus");
        due(32, "d sees nothing", half.sees(3), 0);
        due(33, "d has none", half.own(3), -2);
        half = of(ringOf(4, "") + ";cross ha 1 over ha 3 plus;cross ha 2 over hb 1 minus;cross hd 1 over hd 2 plus");
        due(32, "c sees one", half.sees(2), 2);
        due(33, "of two that slip", half.may(101), 1);
        due(33, "one isn't enough", half.own(2), -2);
        due(33, "both are", half.own(1), 101);
        k.parts(0);
        due(32, "what is gone isn't seen", k.sees(0), 24);
        due(33, "nor made", k.own(1), -2);
    }

    /** Not two of three that step, and not one of two that slip, whichever is lacking. */
    private static void seesAllOfIt() {
        HandKnot slip = of(ringOf(4, "") + ";cross ha 2 over hb 1 minus;cross ha 1 over ha 3 plus;cross hd 1 over hd 2 plus");
        due(32, "c sees the first", slip.sees(2), 1);
        due(33, "not the second", slip.own(2), -2);
        due(33, "b sees both", slip.own(1), 101);
        // one pair of neighbours on each of three links: the first link that a has is another each time
        String[] orders = {"abc", "bca", "cab"};
        int[] sees = {3, 5, 6};
        for (int i = 0; i < 3; i++) {
            String text = ringOf(4, "") + ";cross hX 1 over hY 1 plus;cross hX 2 over hZ 1 plus;cross hY 2 over hZ 2 plus";
            HandKnot k = of(text.replace('X', orders[0].charAt(orders[i].indexOf('a'))).replace('Y', orders[0].charAt(orders[i].indexOf('b')))
                .replace('Z', orders[0].charAt(orders[i].indexOf('c'))));
            due(16, "a step, order " + i, k.may(1012), 1);
            due(32, "a sees two, order " + i, k.sees(0), sees[i]);
            due(33, "two aren't enough, order " + i, k.own(0), -2);
            due(33, "b sees all, order " + i, k.own(1), 1012);
        }
    }

    private static void rounds() {
        HandKnot k = of(SLIPS);
        due(34, "none", k.rounds(0), 5);
        due(34, "one by each in turn", k.rounds(1), 0);
        due(34, "nine", k.rounds(9), 0);
        due(34, "asking changes nothing", k.left(), 5);
        due(34, "nobody can", of(TREFOIL).rounds(9), 3);
        for (int n : new int[] {-1, 10, Integer.MIN_VALUE, Integer.MAX_VALUE}) refused(34, n + " rounds", k, k.rounds(n), -1, 2);
        // b alone may turn what turns, and does so once a round
        HandKnot seven = of(TWO + ";cross l 1 over l 6 plus;cross l 2 over l 5 plus;cross l 3 over l 4 plus;cross m 1 over m 2 plus");
        due(34, "each of two once", seven.rounds(1), 2);
        due(34, "and once again", seven.rounds(2), 0);
    }

    private static void secondRound() {
        // e and f see what stands within what a to d see; a pass of the other ring stands at the other side
        HandKnot k = of("tangle tall 9" + times(8, ";person p# tall 9") + ";hold la pa left pb right;hold lb pb left pe right;"
            + "hold lc pe left pf right;hold ld pf left pc right;hold le pc left pd right;hold lf pd left pa right;"
            + "hold lg pg left ph left;hold lh pg right ph right;"
            + "cross la 1 over le 1 plus;cross lc 1 over lc 2 plus;cross lf 1 over lg 1 plus");
        int[] sees = {5, 1, 1, 5, 2, 2, 4, 4};
        for (int p = 0; p < 8; p++) due(32, "sees " + p, k.sees(p), sees[p]);
        due(34, "none", k.rounds(0), 3);
        due(34, "those ahead of e can't yet", k.rounds(1), 2);
        due(34, "then a does", k.rounds(2), 1);
        due(34, "no more", k.rounds(9), 1);
    }

    private static void tries() {
        HandKnot k = of(SEVEN);
        due(35, "by seven, in whatever order", k.tries(0, 20, 7), 20);
        due(35, "one less isn't enough", k.tries(0, 20, 6), 0);
        due(35, "twenty are enough too", k.tries(65536, 20, 20), 20);
        due(35, "one try", k.tries(65536, 1, 7), 1);
        due(35, "no lot", k.tries(5, 20, 0), 0);
        int[][] bad = {{-1, 1, 1}, {65537, 1, 1}, {0, 0, 1}, {0, 21, 1}, {0, -1, 1}, {0, 1, -1}, {0, 1, 21},
            {Integer.MIN_VALUE, 1, 1}, {Integer.MAX_VALUE, 1, 1}, {0, Integer.MAX_VALUE, 1}, {0, 1, Integer.MIN_VALUE}};
        for (int[] b : bad) refused(35, "tries " + b[0] + " " + b[1] + " " + b[2], k, k.tries(b[0], b[1], b[2]), -1, 2);
        due(35, "nothing is changed", k.left(), 7);
        due(35, "no seed either", k.size(8), 0);
        due(35, "no act", k.size(9), 0);
        // by one lot the slip, 101, alone makes it loose: how many draws of twenty are 2 mod 3
        int came = 0;
        int seed = 4711;
        for (int i = 0; i < 20; i++) {
            seed = (75 * seed + 74) % 65537;
            came += seed % 3 == 2 ? 1 : 0;
        }
        due(35, "the seed goes on from one to the next", of(EITHER).tries(4711, 20, 1), came);
    }

    // ---- WAYS, ODDS, MEAN

    private static void ways() {
        HandKnot k = new HandKnot();
        due(36, "two by both", k.ways(2, 1, false), 2);
        due(36, "two by once", k.ways(2, 1, true), 0);
        due(50, "no ways, not refused", k.trouble(), 0);
        due(36, "two in no ring", k.ways(2, 0, false), 0);
        due(36, "two in thirteen", k.ways(2, 13, false), 0);
        due(36, "three by once", k.ways(3, 1, true), 8);
        due(36, "three by both", k.ways(3, 1, false), 8);
        due(36, "thirteen in none", k.ways(13, 0, false), 0);
        due(36, "a three and five twos", k.ways(13, 6, false), 286L * 945 * 8 * 32);
        due(36, "not by once", k.ways(13, 6, true), 0);
        due(36, "no seven", k.ways(13, 7, false), 0);
        due(36, "no thirteen", k.ways(13, 13, false), 0);
        due(36, "three threes and a four are all by once", k.ways(13, 5, true), 0);
        due(36, "six twos", k.ways(12, 6, false), 10395L * 64);
        for (int once = 0; once < 2; once++) {
            for (int n : new int[] {1, 0, -1, 14, Integer.MIN_VALUE, Integer.MAX_VALUE}) {
                refused(36, n + " people", k, k.ways(n, 1, once == 1), -1, 2);
                refused(37, n + " people", k, k.odds(n, 1, once == 1, true), -1, 2);
                refused(38, n + " people", k, k.mean(n, once == 1, true), -1, 2);
            }
            for (int r : new int[] {-1, 14, Integer.MIN_VALUE, Integer.MAX_VALUE}) {
                refused(36, r + " rings", k, k.ways(2, r, once == 1), -1, 2);
                refused(37, r + " rings", k, k.odds(2, r, once == 1, true), -1, 2);
            }
        }
    }

    private static void odds() {
        HandKnot k = new HandKnot();
        // of five: 384 ways into one ring, 160 into two
        due(37, "five in two, upper", k.odds(5, 2, false, false), 5);
        due(37, "five in two, lower", k.odds(5, 2, false, true), 17);
        due(37, "five in one, upper", k.odds(5, 1, false, false), 12);
        due(37, "five in one, lower", k.odds(5, 1, false, true), 17);
        due(37, "two in one, upper", k.odds(2, 1, false, false), 1);
        due(37, "two in one, lower", k.odds(2, 1, false, true), 1);
        due(37, "none, upper", k.odds(13, 0, true, false), 0);
        due(37, "none, lower", k.odds(13, 13, true, true), 1);
        due(50, "not refused", k.trouble(), 0);
        for (int r = 0; r <= 13; r++) {
            refused(37, "two by once into " + r, k, k.odds(2, r, true, false), -1, 6);
            refused(37, "two by once into " + r + ", lower", k, k.odds(2, r, true, true), -1, 6);
        }
    }

    private static void means() {
        HandKnot k = new HandKnot();
        due(38, "of two, upper", k.mean(2, false, false), 1);
        due(38, "of two, lower", k.mean(2, false, true), 1);
        due(38, "of five, upper", k.mean(5, false, false), 22);
        due(38, "of five, lower", k.mean(5, false, true), 17);
        // six by once: 5! times 32 ways into one ring, ten times 8 times 8 into two
        due(38, "of six by once, upper", k.mean(6, true, false), 8);
        due(38, "of six by once, lower", k.mean(6, true, true), 7);
        refused(38, "of two by once", k, k.mean(2, true, false), -1, 6);
        refused(38, "of two by once, lower", k, k.mean(2, true, true), -1, 6);
        long upper = 0;
        long lower = 0;
        for (int r = 0; r <= 13; r++) {
            upper += r * k.ways(13, r, false);
            lower += k.ways(13, r, false);
        }
        due(38, "of thirteen, crosswise", upper * 1000 / lower, k.mean(13, false, false) * 1000 / k.mean(13, false, true));
    }
}
