import java.util.ArrayList;
import java.util.List;

/** Calls that are refused: what they answer, by which number, and that nothing else is changed; and acts undone. */
public final class RefusedTest extends Checks {
    private static final int LEAST = Integer.MIN_VALUE;
    private static final int MOST = Integer.MAX_VALUE;
    private static final String BUSY = FOUR + ";cross l 1 over l 6 plus;cross l 2 over l 3 plus;cross l 4 over p 1 plus;"
        + "cross l 5 over p 2 minus;cross m 1 over m 2 minus";

    private interface Call {
        long on(HandKnot k);
    }

    /** Makes an object anew for each call: an object is used for at most 512. */
    private interface Maker {
        HandKnot make();
    }

    private static final class Refused {
        final int promise;
        final String what;
        final Call call;
        final long answer;
        final int number;

        Refused(int promise, String what, Call call, long answer, int number) {
            this.promise = promise;
            this.what = what;
            this.call = call;
            this.answer = answer;
            this.number = number;
        }
    }

    private static final List<Refused> ALL = new ArrayList<>();

    public static void main(String[] args) {
        withoutTangle();
        whateverStands();
        inBusy();
        refuse("a busy tangle", () -> of(BUSY));
        inActed();
        parted();
        loose();
        marks();
        tooMany();
        acts();
        actsThatAreKept();
        askingChangesNothing();
        lastCall();
        end();
    }

    private static void add(int promise, String what, Call call, long answer, int number) {
        ALL.add(new Refused(promise, what, call, answer, number));
    }

    private static long bit(boolean is) {
        return is ? 1 : 0;
    }

    /** Each of the calls that are told: refused, and nothing else. */
    private static void refuse(String where, Maker maker) {
        for (Refused r : ALL) {
            HandKnot k = maker.make();
            String before = seen(k);
            String what = r.what + ", " + where;
            due(r.promise, what, r.call.on(k), r.answer);
            due(50, what + ", trouble", k.trouble(), r.number);
            due(5, what + ", where", k.where(), -1);
            due(50, what + ", trouble asked again", k.trouble(), r.number);
            due(r.promise, what + ", nothing is changed", seen(k).equals(before), true);
            k.ways(2, 1, false);
            due(50, what + ", then one that isn't refused", k.trouble(), 0);
        }
        ALL.clear();
    }

    private static void withoutTangle() {
        whateverStands();
        int[] any = {LEAST, -1, 0, 1, 101, 1012, MOST};
        for (int i : any) {
            add(6, "ring " + i, k -> k.ring(i), -1, 1);
            add(7, "people " + i, k -> k.people(i), -1, 1);
            add(8, "member " + i, k -> k.member(0, i), -1, 1);
            add(8, "member of " + i, k -> k.member(i, 0), -1, 1);
            add(9, "holds " + i, k -> k.holds(i, true), -1, 1);
            add(10, "along " + i, k -> k.along(i), -1, 1);
            add(11, "stands " + i, k -> k.stands(i), -1, 1);
            add(12, "place " + i, k -> k.place(i, 0), -1, 1);
            add(12, "place, what " + i, k -> k.place(0, i), -1, 1);
            add(13, "sign " + i, k -> k.sign(i), -100, 1);
            add(16, "may " + i, k -> k.may(i), -1, 1);
            add(17, "goer " + i, k -> k.goer(i), -1, 1);
            add(19, "moveAt " + i, k -> k.moveAt(i), -1, 1);
            add(20, "fewest " + i, k -> k.fewest(i), -1, 1);
            add(21, "next " + i, k -> k.next(i), -1, 1);
            add(23, "hang " + i, k -> k.hang(i, 1), -100, 1);
            add(23, "hang in " + i, k -> k.hang(0, i), -100, 1);
            add(24, "colours " + i, k -> k.colours(i), -1, 1);
            add(26, "part " + i, k -> k.part(i), -1, 1);
            add(27, "lift " + i, k -> k.lift(i), -1, 1);
            add(28, "twist " + i, k -> k.twist(i), -100, 1);
            add(30, "reached " + i, k -> k.reached(i), -1, 1);
            add(31, "few " + i, k -> k.few(i), -1, 1);
            add(32, "sees " + i, k -> k.sees(i), -1, 1);
            add(33, "own " + i, k -> k.own(i), -1, 1);
            add(34, "rounds " + i, k -> k.rounds(i), -1, 1);
            add(35, "tries " + i, k -> k.tries(i, 1, 1), -1, 1);
            add(35, "tries, times " + i, k -> k.tries(1, i, 1), -1, 1);
            add(39, "move " + i, k -> k.move(i), -1, 1);
            add(40, "parts " + i, k -> k.parts(i), -1, 1);
            add(41, "lifts " + i, k -> k.lifts(i), -100, 1);
            add(44, "seed " + i, k -> bit(k.seed(i)), 0, 1);
        }
        add(14, "left", k -> k.left(), -1, 1);
        add(15, "loose", k -> k.loose(), -1, 1);
        add(18, "moves", k -> k.moves(), -1, 1);
        add(22, "caller", k -> k.caller(), -1, 1);
        add(24, "colours 3", k -> k.colours(3), -1, 1);
        add(25, "cannot", k -> k.cannot(), -1, 1);
        add(29, "arcs", k -> k.arcs(), -1, 1);
        add(42, "lot", k -> k.lot(), -1, 1);
        add(43, "call", k -> k.call(), -1, 1);
        add(46, "mark", k -> k.mark(), -1, 1);
        add(45, "undo", k -> bit(k.undo()), 0, 6);
        add(47, "back 0", k -> bit(k.back(0)), 0, 1);
        refuse("without a tangle", () -> new HandKnot());
    }

    /** Refused alike with a TANGLE and without one. */
    private static void whateverStands() {
        for (int n : new int[] {LEAST, -1, 21, 901, MOST}) add(3, "tangle " + n, k -> k.tangle(n), -1, 2);
        for (int n : new int[] {LEAST, -1, 0, 1, 14, MOST}) {
            add(36, "ways of " + n, k -> k.ways(n, 1, false), -1, 2);
            add(37, "odds of " + n, k -> k.odds(n, 1, false, false), -1, 2);
            add(38, "mean of " + n, k -> k.mean(n, false, false), -1, 2);
        }
        for (int r : new int[] {LEAST, -1, 14, MOST}) {
            add(36, "ways into " + r, k -> k.ways(13, r, true), -1, 2);
            add(37, "odds into " + r, k -> k.odds(13, r, true, true), -1, 2);
        }
        add(37, "odds of none", k -> k.odds(2, 1, true, true), -1, 6);
        add(38, "mean of none", k -> k.mean(2, true, true), -1, 6);
        for (int m : new int[] {LEAST, -1, 3, MOST}) add(47, "back " + m, k -> bit(k.back(m)), 0, 1);
    }

    /** Refused in BUSY as told, and behind acts that leave its CROSSINGS 0, 2 and 3. */
    private static void inBusy() {
        for (int i : new int[] {LEAST, -1, 4, MOST}) {
            add(6, "ring " + i, k -> k.ring(i), -1, 1);
            add(9, "holds " + i, k -> k.holds(i, false), -1, 1);
            add(10, "along " + i, k -> k.along(i), -1, 1);
            add(32, "sees " + i, k -> k.sees(i), -1, 1);
            add(33, "own " + i, k -> k.own(i), -1, 1);
            add(40, "parts " + i, k -> k.parts(i), -1, 1);
        }
        for (int i : new int[] {LEAST, -1, 2, MOST}) {
            add(7, "people " + i, k -> k.people(i), -1, 1);
            add(8, "member " + i, k -> k.member(1, i), -1, 1);
            add(8, "member of " + i, k -> k.member(i, 0), -1, 1);
            add(12, "place, what " + i, k -> k.place(0, i), -1, 1);
            add(23, "hang " + i, k -> k.hang(i, 0), -100, 1);
            add(23, "hang in " + i, k -> k.hang(1, i), -100, 1);
            add(28, "twist " + i, k -> k.twist(i), -100, 1);
        }
        add(23, "hang in itself", k -> k.hang(1, 1), -100, 1);
        for (int i : new int[] {LEAST, -1, 10, MOST}) {
            add(11, "stands " + i, k -> k.stands(i), -1, 1);
            add(12, "place " + i, k -> k.place(i, 1), -1, 1);
            add(34, "rounds " + i, k -> k.rounds(i), -1, 2);
            add(19, "moveAt " + i, k -> k.moveAt(i), -1, 1);
        }
        for (int i : new int[] {LEAST, -1, 5, MOST}) {
            add(13, "sign " + i, k -> k.sign(i), -100, 1);
            add(41, "lifts " + i, k -> k.lifts(i), -100, 1);
        }
        for (int i : new int[] {LEAST, -1, 7, 99, 100, 110, 1000, 1011, 1900, 2012, MOST}) {
            add(16, "may " + i, k -> k.may(i), -1, 1);
            add(17, "goer " + i, k -> k.goer(i), -1, 1);
            add(39, "move " + i, k -> k.move(i), -1, 1);
        }
        for (int i : new int[] {0, 2, 102, 1203}) {
            add(17, "goer " + i + ", that can't", k -> k.goer(i), -1, 5);
            add(39, "move " + i + ", that can't", k -> k.move(i), -1, 5);
        }
        for (int d : new int[] {LEAST, -1, 9, MOST}) {
            add(20, "fewest " + d, k -> k.fewest(d), -1, 2);
            add(21, "next " + d, k -> k.next(d), -1, 2);
            add(26, "part " + d, k -> k.part(d), -1, 2);
            add(27, "lift " + d, k -> k.lift(d), -1, 2);
            add(30, "reached " + d, k -> k.reached(d), -1, 2);
            add(31, "few " + d, k -> k.few(d), -1, 2);
        }
        add(21, "next 0", k -> k.next(0), -1, 2);
        for (int p : new int[] {LEAST, -3, 0, 2, 4, 6, 8, 9, MOST}) add(24, "colours " + p, k -> k.colours(p), -1, 2);
        for (int v : new int[] {LEAST, -1, 65537, MOST}) {
            add(35, "tries, seed " + v, k -> k.tries(v, 1, 1), -1, 2);
            add(44, "seed " + v, k -> bit(k.seed(v)), 0, 2);
        }
        for (int n : new int[] {LEAST, -1, 0, 21, MOST}) add(35, "tries, times " + n, k -> k.tries(0, n, 1), -1, 2);
        for (int d : new int[] {LEAST, -1, 21, MOST}) add(35, "tries, lots " + d, k -> k.tries(0, 1, d), -1, 2);
    }

    private static HandKnot acted() {
        HandKnot k = of(BUSY);
        for (int i = 0; i < 3; i++) k.mark();
        k.lifts(4);
        due(39, "the second turns", k.move(1), 4);
        k.seed(9);
        k.feed(0, 0, 0, 0, 0);
        return k;
    }

    private static void inActed() {
        whateverStands();
        inBusy();
        add(41, "lifts what is gone", k -> k.lifts(1), -100, 5);
        add(17, "goer of what is gone", k -> k.goer(1), -1, 5);
        add(39, "move of what is gone", k -> k.move(1), -1, 5);
        add(46, "a fourth mark", k -> k.mark(), -1, 3);
        refuse("with acts and marks", () -> acted());
    }

    private static void parted() {
        whateverStands();
        for (int l = 0; l < 4; l++) {
            int link = l;
            add(40, "parts " + l, k -> k.parts(link), -1, 5);
        }
        for (int l : new int[] {LEAST, -1, 4, MOST}) add(40, "parts " + l, k -> k.parts(l), -1, 1);
        for (int d : new int[] {0, 8}) add(26, "part " + d, k -> k.part(d), -1, 5);
        for (int d : new int[] {-1, 9}) add(26, "part " + d, k -> k.part(d), -1, 2);
        refuse("one is parted", () -> {
            HandKnot k = of(BUSY);
            k.parts(2);
            return k;
        });
    }

    private static void loose() {
        add(42, "lot", k -> k.lot(), -1, 6);
        add(43, "call", k -> k.call(), -1, 6);
        add(39, "move", k -> k.move(101), -1, 5);
        add(17, "goer", k -> k.goer(101), -1, 5);
        add(19, "moveAt", k -> k.moveAt(0), -1, 1);
        add(41, "lifts", k -> k.lifts(0), -100, 5);
        refuse("loose", () -> {
            HandKnot k = of(SLIP);
            k.seed(77);
            k.lot();
            due(15, "loose", k.loose(), 1);
            return k;
        });
    }

    private static void marks() {
        HandKnot k = of(SLIP);
        for (int i = 0; i < 3; i++) {
            refused(47, "not set yet, " + i, k, k.back(i), 1);
            due(46, "mark " + i, k.mark(), i);
            due(50, "mark " + i, k.trouble(), 0);
            due(47, "set, " + i, k.back(i), true);
            due(49, "so many", k.size(10), i + 1);
        }
        refused(46, "a fourth", k, k.mark(), -1, 3);
        due(49, "no more", k.size(10), 3);
        due(3, "another tangle", read(k, SLIP), 1);
        refused(47, "none is set", k, k.back(0), 1);
        due(46, "from 0 on", k.mark(), 0);
    }

    /** Refused by 3, and nothing else. */
    private static void tooMany() {
        String rings = "tangle tall 99" + times(4, ";person p# tall 1") + ";hold la pa left pb left;hold lb pa right pb right;"
            + "hold lc pc left pd left;hold ld pc right pd right";
        String wider = rings + ";cross la 1 over lc 1 plus;cross la 3 over lc 9 plus;cross lc 7 over lc 6 minus;"
            + "cross ld 9 over ld 7 minus;cross la 7 over lc 8 plus;cross la 2 over la 6 minus;cross la 5 over ld 6 plus";
        add(20, "fewest", k -> k.fewest(8), -1, 3);
        add(21, "next", k -> k.next(8), -1, 3);
        add(30, "reached", k -> k.reached(8), -1, 3);
        add(31, "few", k -> k.few(8), -1, 3);
        refuse("too many", () -> of(wider));
        // only behind the last of the lifts, of what was lifted, are there too many
        for (int x = 0; x < 7; x++) {
            HandKnot k = of(wider);
            k.lifts(6);
            k.lifts(x);
            k.fewest(8);
            due(27, "behind lift " + x, k.trouble(), x == 6 ? 3 : 0);
        }
        add(27, "lift", k -> k.lift(8), -1, 3);
        refuse("too many behind the last lift", () -> {
            HandKnot k = of(wider);
            k.lifts(6);
            return k;
        });
    }

    // ---- acts

    /** Each sort of ACT, undone: all is as it was, and one less can be undone. */
    private static void acts() {
        Call[] acts = {k -> k.move(1), k -> k.parts(0), k -> k.parts(3), k -> k.lifts(2), k -> k.lot(), k -> k.call()};
        int[] promises = {39, 40, 40, 41, 42, 43};
        for (int i = 0; i < acts.length; i++) {
            HandKnot k = lifted();
            String before = seen(lifted());
            acts[i].on(k);
            due(promises[i], "not refused, act " + i, k.trouble(), 0);
            due(49, "two can be undone, act " + i, k.size(9), 2);
            due(promises[i], "something is changed, act " + i, seen(k).equals(before), false);
            k.seed(12345);
            k.seed(-1);
            due(45, "undone, act " + i, k.undo(), true);
            due(45, "not refused, act " + i, k.trouble(), 0);
            due(45, "all is as ahead of it, act " + i, seen(k).equals(before), true);
            due(45, "and the one ahead, act " + i, k.undo(), true);
            due(13, "as told, act " + i, k.sign(4), -1);
            refused(45, "no more, act " + i, k, k.undo(), 6);
        }
    }

    private static HandKnot lifted() {
        HandKnot k = of(BUSY);
        k.seed(65536);
        k.lifts(4);
        return k;
    }

    private static void actsThatAreKept() {
        for (int n = 1; n <= 20; n++) {
            HandKnot k = of(TREFOIL);
            for (int i = 0; i < n; i++) k.lifts(i % 3);
            due(49, "kept of " + n, k.size(9), Math.min(n, 16));
            int undone = 0;
            while (undone < 99 && k.undo()) undone++;
            due(45, "undone of " + n, undone, Math.min(n, 16));
            due(50, "the next is refused", k.trouble(), 6);
            int still = Math.max(0, n - 16);
            for (int x = 0; x < 3; x++) due(13, x + " of " + n, k.sign(x), (still + 2 - x) / 3 % 2 == 0 ? 1 : -1);
            k.lifts(0);
            due(49, "again one, of " + n, k.size(9), 1);
        }
        HandKnot k = of(TREFOIL);
        for (int i = 0; i < 17; i++) k.lifts(0);
        due(46, "a mark", k.mark(), 0);
        k.seed(-1);
        due(44, "a seed that isn't refused", k.seed(3), true);
        due(50, "not refused", k.trouble(), 0);
        due(49, "a mark keeps acts", k.size(9), 16);
        k.seed(-1);
        due(47, "back", k.back(0), true);
        due(50, "back isn't refused", k.trouble(), 0);
        due(44, "the seed as by the mark", k.size(8), 0);
        refused(45, "gone back, nothing can be undone", k, k.undo(), 6);
        k.lifts(1);
        due(45, "but what is done behind it", k.undo(), true);
        refused(45, "that alone", k, k.undo(), 6);
    }

    /** What asks only, of all calls that aren't refused. */
    private static void askingChangesNothing() {
        Call[] calls = {k -> k.ring(0), k -> k.people(1), k -> k.member(1, 1), k -> k.holds(3, true), k -> k.along(3),
            k -> k.stands(9), k -> k.place(9, 1), k -> k.sign(4), k -> k.left(), k -> k.loose(), k -> k.may(1023),
            k -> k.goer(1), k -> k.moves(), k -> k.moveAt(0), k -> k.fewest(8), k -> k.next(8), k -> k.caller(),
            k -> k.hang(1, 0), k -> k.colours(7), k -> k.cannot(), k -> k.part(8), k -> k.lift(8), k -> k.twist(1),
            k -> k.arcs(), k -> k.reached(8), k -> k.few(8), k -> k.sees(3), k -> k.own(3), k -> k.rounds(9),
            k -> k.tries(65536, 20, 20), k -> k.ways(13, 1, true), k -> k.odds(13, 1, true, true), k -> k.mean(13, true, true)};
        for (int i = 0; i < calls.length; i++) {
            HandKnot k = of(BUSY);
            k.lifts(1);
            k.seed(31);
            String before = seen(k);
            calls[i].on(k);
            due(50, "call " + i + " isn't refused", k.trouble(), 0);
            due(50, "call " + i + " changes nothing", seen(k).equals(before), true);
        }
    }

    /** An object is used for at most 512 calls: the last one is answered still. */
    private static void lastCall() {
        HandKnot k = of(TREFOIL);
        int calls = k.size(11) + (TREFOIL.length() + 19) / 20 + 2;
        int lifts = 0;
        while (calls < 511) {
            k.lifts(0);
            lifts++;
            calls++;
        }
        due(41, "the 512th call", k.lifts(0), lifts % 2 == 0 ? -1 : 1);
    }
}
