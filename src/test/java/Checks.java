import java.util.NoSuchElementException;

/** What the tests by promises share: some texts, how they are read, how an answer is held against the one that is due. */
class Checks {
    static final String TWO = "tangle tall 50;person a tall 40;person b tall 60;"
        + "hold l a left b left;hold m a right b right";
    static final String SLIP = TWO + ";cross l 1 over m 5 plus;cross l 2 over m 4 minus";
    static final String TREFOIL = TWO + ";cross l 1 over l 4 plus;cross l 5 over l 2 plus;cross l 3 over l 6 plus";
    static final String STEP = TWO + ";cross l 1 over l 3 plus;cross l 2 over l 5 plus;cross l 4 over l 6 minus";
    static final String NEST = TWO + ";cross l 1 over l 4 plus;cross l 2 over l 3 plus";
    static final String FOUR = "tangle tall 50;person a tall 1;person b tall 1;person c tall 1;person d tall 1;"
        + "hold l a left b left;hold m a right b right;hold p c left d left;hold q c right d right";
    static final String HOPF = FOUR + ";cross l 1 over p 1 plus;cross p 2 over l 2 plus";

    static int wrong;
    static int asked;

    static void due(int promise, String what, long is, long want) {
        asked++;
        if (is != want) {
            wrong++;
            System.out.println("promise " + promise + ": " + what + " answered " + is + ", due is " + want);
        }
    }

    static void due(int promise, String what, boolean is, boolean want) {
        due(promise, what, is ? 1 : 0, want ? 1 : 0);
    }

    /** That a call was refused, and by which number. */
    static void refused(int promise, String what, HandKnot k, long is, long want, int trouble) {
        due(promise, what, is, want);
        due(promise, what + ", trouble", k.trouble(), trouble);
    }

    static void refused(int promise, String what, HandKnot k, boolean is, int trouble) {
        refused(promise, what, k, is ? 1 : 0, 0, trouble);
    }

    static void feed(HandKnot k, String text) {
        int[] all = Texts.fed(text, ' ');
        for (int i = 0; i < all.length; i += 5) k.feed(all[i], all[i + 1], all[i + 2], all[i + 3], all[i + 4]);
    }

    static int read(HandKnot k, String text) {
        feed(k, text);
        return k.tangle(text.length());
    }

    static HandKnot of(String text) {
        HandKnot k = new HandKnot();
        if (read(k, text) < 0) throw new IllegalStateException(k.fault() + " at " + k.where() + ": " + text);
        return k;
    }

    static void faulty(String text, int fault, int where) {
        HandKnot k = new HandKnot();
        refused(3, text, k, read(k, text), -1, 4);
        due(4, text, k.fault(), fault);
        due(5, text, k.where(), where);
    }

    static String times(int n, String line) {
        StringBuilder s = new StringBuilder();
        for (int i = 0; i < n; i++) s.append(line.replace('#', (char) ('a' + i)).replace('$', (char) ('a' + (i + 1) % n)));
        return s.toString();
    }

    static String ringOf(int n, String once) {
        return "tangle tall 50" + once + times(n, ";person p# tall 9") + times(n, ";hold h# p# left p$ right");
    }

    static int led(HandKnot k, int i) {
        try {
            return k.led(i);
        } catch (NoSuchElementException e) {
            return -7;
        }
    }

    /** All that calls show of what stands, but TROUBLE and where(), which each call may change. */
    static String seen(HandKnot k) {
        StringBuilder s = new StringBuilder();
        for (int i = 0; i < 12; i++) s.append(k.size(i)).append(' ');
        for (int i = 0; i < 14; i++) s.append(k.stands(i)).append(' ').append(k.place(i, 0)).append(' ').append(k.place(i, 1)).append(' ');
        for (int i = 0; i < 8; i++) {
            s.append(k.sign(i)).append(' ').append(k.twist(i)).append(' ').append(k.hang(0, i)).append(' ').append(led(k, i)).append(' ');
            s.append(k.ring(i)).append(' ').append(k.people(i)).append(' ').append(k.member(0, i)).append(' ').append(k.along(i)).append(' ');
            s.append(k.holds(i, false)).append(' ').append(k.holds(i, true)).append(' ').append(k.sees(i)).append(' ').append(k.own(i)).append(' ');
        }
        for (int i = 0; i <= k.moves(); i++) s.append(k.moveAt(i)).append(' ').append(k.goer(k.moveAt(i))).append(' ');
        s.append(k.left()).append(' ').append(k.loose()).append(' ').append(k.caller()).append(' ').append(k.cannot()).append(' ');
        s.append(k.arcs()).append(' ').append(k.colours(3)).append(' ').append(k.colours(5)).append(' ').append(k.colours(7)).append(' ');
        s.append(k.fewest(3)).append(' ').append(k.next(3)).append(' ').append(k.reached(3)).append(' ').append(k.few(3)).append(' ');
        s.append(k.part(1)).append(' ').append(k.lift(1)).append(' ').append(k.rounds(1)).append(' ').append(k.tries(7, 5, 3));
        return s.append(" fault ").append(k.fault()).toString();
    }

    /** Tells how many answers were wrong, and ends with 1 if one was. */
    static void end() {
        System.out.println(wrong == 0 ? asked + " answers are as due" : wrong + " of " + asked + " answers are not as due");
        if (wrong != 0) System.exit(1);
    }
}
