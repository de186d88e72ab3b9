import java.util.Arrays;
import java.util.NoSuchElementException;

/** People who hold hands in a tangle, and how it is undone without letting go. */
public final class HandKnot {
    public static final int NONE = -1;

    private static final int NOTHING = -2;
    private static final int NO_SIGN = -100;

    private static final int NONE_SUCH = 1;
    private static final int BAD_NUMBER = 2;
    private static final int NO_ROOM = 3;
    private static final int FAULTY = 4;
    private static final int NOT_SO = 5;
    private static final int THERE_IS_NONE = 6;

    private static final int MOST_PEOPLE = 8;
    private static final int MOST_LINKS = 8;
    private static final int MOST_CROSSINGS = 7;
    private static final int MOST_PLACE = 9;
    private static final int MOST_STANDINGS = 14;
    private static final int MOST_DEPTH = 8;
    private static final int MOST_ROUNDS = 9;
    private static final int MOST_TRIES = 20;
    private static final int SEEDS = 65537;

    /** Passes and hands are counted in pairs; a row of 16 has room for each four-bit number. */
    private static final int NIBBLES = 16;
    /** A number of a MOVE has decimal digits for CROSSINGS, so rows by CROSSING have room for each digit. */
    private static final int DIGITS = 10;
    private static final int FIRST_SLIP = 100;
    private static final int FIRST_STEP = 1000;
    private static final int PAST_STEPS = 2000;

    private final Reader reader = new Reader();
    private final Rings rings = new Rings();
    private final Moment now = new Moment();
    private final Moment tried = new Moment();
    private final History history = new History();
    private final Board board = new Board(rings);
    private final Search search = new Search(rings);
    private final Within within = new Within(rings);
    private final Colouring colouring = new Colouring();
    private final Chances chances = new Chances();
    private boolean there;
    private int trouble;

    public HandKnot() {
        there = false;
        trouble = 0;
    }

    private int refuse(int why) {
        trouble = why;
        return NONE;
    }

    private int refuseSigned(int why) {
        trouble = why;
        return NO_SIGN;
    }

    private boolean refuseFlatly(int why) {
        trouble = why;
        return false;
    }

    private int grant(int answer) {
        trouble = 0;
        return answer;
    }

    private boolean isPerson(int person) {
        return there && person >= 0 && person < rings.people;
    }

    private boolean isLink(int link) {
        return there && link >= 0 && link < rings.links;
    }

    private boolean isRing(int ring) {
        return there && ring >= 0 && ring < rings.count;
    }

    private boolean isCrossing(int crossing) {
        return there && crossing >= 0 && crossing < rings.crossings;
    }

    private boolean isStanding(int standing) {
        return there && standing >= 0 && standing < rings.standings;
    }

    private boolean isMove(int move) {
        return there && Board.isNumber(move, rings.crossings);
    }

    private static boolean isDepth(int d) {
        return d >= 0 && d <= MOST_DEPTH;
    }

    private static boolean isSeed(int v) {
        return v >= 0 && v < SEEDS;
    }

    // ---- the tangle

    public int feed(int a, int b, int c, int d, int e) {
        if (!reader.tape.hasRoom()) {
            return NONE;
        }
        reader.tape.take(a);
        reader.tape.take(b);
        reader.tape.take(c);
        reader.tape.take(d);
        reader.tape.take(e);
        return reader.tape.filled;
    }

    public int tangle(int n) {
        if (n < 0 || n > reader.tape.filled) {
            return refuse(BAD_NUMBER);
        }
        if (!reader.reads(n)) {
            return refuse(FAULTY);
        }
        rings.trace(reader.told);
        there = true;
        history.clear();
        now.begin(rings.key, rings.plus);
        board.lay(now);
        return grant(rings.count);
    }

    public int fault() {
        return reader.fault;
    }

    public int where() {
        return trouble == FAULTY ? reader.place : NONE;
    }

    // ---- who holds whom

    public int ring(int person) {
        return isPerson(person) ? grant(rings.ringWith(person)) : refuse(NONE_SUCH);
    }

    public int people(int ring) {
        return isRing(ring) ? grant(rings.peopleIn(ring)) : refuse(NONE_SUCH);
    }

    public int member(int ring, int i) {
        if (!isRing(ring) || i < 0 || i >= rings.peopleIn(ring)) {
            return refuse(NONE_SUCH);
        }
        return grant(rings.members[rings.firstMember[ring] + i]);
    }

    public int holds(int person, boolean right) {
        if (!isPerson(person)) {
            return refuse(NONE_SUCH);
        }
        return grant(rings.partner[2 * person + (right ? 1 : 0)]);
    }

    public int along(int link) {
        return isLink(link) ? grant(rings.along[link]) : refuse(NONE_SUCH);
    }

    // ---- what stands where

    public int stands(int place) {
        if (!isStanding(place)) {
            return refuse(NONE_SUCH);
        }
        int pass = Moment.passAt(now.key, place);
        return grant(pass == NONE ? NOTHING : pass);
    }

    public int place(int place, int what) {
        if (!isStanding(place) || what < 0 || what > 1) {
            return refuse(NONE_SUCH);
        }
        int link = rings.standingLink[place];
        return grant(what == 0 ? rings.linkRing[link] : link);
    }

    public int sign(int crossing) {
        return isCrossing(crossing) ? grant(board.signOf(crossing)) : refuseSigned(NONE_SUCH);
    }

    public int left() {
        return there ? grant(board.left) : refuse(NONE_SUCH);
    }

    public int loose() {
        return there ? grant(board.left == 0 ? 1 : 0) : refuse(NONE_SUCH);
    }

    // ---- moves

    public int may(int move) {
        return isMove(move) ? grant(board.allows(move) ? 1 : 0) : refuse(NONE_SUCH);
    }

    public int goer(int move) {
        if (!isMove(move)) {
            return refuse(NONE_SUCH);
        }
        if (!board.can(move)) {
            return refuse(NOT_SO);
        }
        return grant(board.whoGoes(move));
    }

    public int moves() {
        return there ? grant(board.count) : refuse(NONE_SUCH);
    }

    public int moveAt(int i) {
        if (!there || i < 0 || i >= board.count) {
            return refuse(NONE_SUCH);
        }
        return grant(board.numbers[i]);
    }

    public int fewest(int d) {
        if (!there) {
            return refuse(NONE_SUCH);
        }
        if (!isDepth(d)) {
            return refuse(BAD_NUMBER);
        }
        int k = search.grow(now, d, true);
        return k == Search.OVER ? refuse(NO_ROOM) : grant(k);
    }

    public int next(int d) {
        if (!there) {
            return refuse(NONE_SUCH);
        }
        if (!isDepth(d) || d == 0) {
            return refuse(BAD_NUMBER);
        }
        int move = search.firstToLoose(now, d);
        return move == Search.OVER ? refuse(NO_ROOM) : grant(move);
    }

    public int caller() {
        return there ? grant(within.bestCall(board, now)) : refuse(NONE_SUCH);
    }

    // ---- counts that no move changes

    public int hang(int ring, int other) {
        if (!isRing(ring) || !isRing(other) || ring == other) {
            return refuseSigned(NONE_SUCH);
        }
        return grant(board.signsBetween(ring, other));
    }

    public int colours(int p) {
        if (!there) {
            return refuse(NONE_SUCH);
        }
        if (p != 3 && p != 5 && p != 7) {
            return refuse(BAD_NUMBER);
        }
        return grant(colouring.freeColours(board, rings.count, p));
    }

    public int cannot() {
        return there ? grant(isProvedTight() ? 1 : 0) : refuse(NONE_SUCH);
    }

    private boolean isProvedTight() {
        for (int p = 3; p <= 7; p += 2) {
            if (colouring.freeColours(board, rings.count, p) != rings.count) {
                return true;
            }
        }
        for (int r = 0; r < rings.count; r++) {
            for (int s = r + 1; s < rings.count; s++) {
                if (board.signsBetween(r, s) != 0) {
                    return true;
                }
            }
        }
        return false;
    }

    public int part(int d) {
        if (!there) {
            return refuse(NONE_SUCH);
        }
        if (!isDepth(d)) {
            return refuse(BAD_NUMBER);
        }
        if (now.parted != NOTHING) {
            return refuse(NOT_SO);
        }
        int best = bestPart(d);
        return best == Search.OVER ? refuse(NO_ROOM) : grant(best);
    }

    private int bestPart(int d) {
        int best = NOTHING;
        int least = d + 1;
        for (int link = 0; link < rings.links; link++) {
            tried.become(now);
            tried.letGo(rings, link);
            int k = search.grow(tried, d, true);
            if (k == Search.OVER) {
                return k;
            }
            if (k >= 0 && k < least) {
                least = k;
                best = link;
            }
        }
        return best;
    }

    public int lift(int d) {
        if (!there) {
            return refuse(NONE_SUCH);
        }
        if (!isDepth(d)) {
            return refuse(BAD_NUMBER);
        }
        int best = bestLift(d);
        return best == Search.OVER ? refuse(NO_ROOM) : grant(best);
    }

    private int bestLift(int d) {
        int best = NOTHING;
        int least = d + 1;
        for (int x = 0; x < rings.crossings; x++) {
            if (!board.isLeft(x)) {
                continue;
            }
            tried.become(now);
            tried.turnOver(x);
            int k = search.grow(tried, d, true);
            if (k == Search.OVER) {
                return k;
            }
            if (k >= 0 && k < least) {
                least = k;
                best = x;
            }
        }
        return best;
    }

    public int twist(int ring) {
        if (!isRing(ring)) {
            return refuseSigned(NONE_SUCH);
        }
        return grant(board.signsBetween(ring, ring));
    }

    public int arcs() {
        return there ? grant(colouring.countArcs(board, rings.count)) : refuse(NONE_SUCH);
    }

    public int reached(int d) {
        if (!there) {
            return refuse(NONE_SUCH);
        }
        if (!isDepth(d)) {
            return refuse(BAD_NUMBER);
        }
        int many = search.countReached(now, d);
        return many == Search.OVER ? refuse(NO_ROOM) : grant(many);
    }

    public int few(int d) {
        if (!there) {
            return refuse(NONE_SUCH);
        }
        if (!isDepth(d)) {
            return refuse(BAD_NUMBER);
        }
        int least = search.leastLeft(now, d);
        return least == Search.OVER ? refuse(NO_ROOM) : grant(least);
    }

    // ---- those within

    public int sees(int person) {
        return isPerson(person) ? grant(board.seenBy(person)) : refuse(NONE_SUCH);
    }

    public int own(int person) {
        return isPerson(person) ? grant(Within.bestOwn(board, person)) : refuse(NONE_SUCH);
    }

    public int rounds(int n) {
        if (!there) {
            return refuse(NONE_SUCH);
        }
        if (n < 0 || n > MOST_ROUNDS) {
            return refuse(BAD_NUMBER);
        }
        return grant(within.leftBehindRounds(now, n));
    }

    public int tries(int seed, int n, int d) {
        if (!there) {
            return refuse(NONE_SUCH);
        }
        if (!isSeed(seed) || n < 1 || n > MOST_TRIES || d < 0 || d > MOST_TRIES) {
            return refuse(BAD_NUMBER);
        }
        return grant(within.looseTries(now, seed, n, d));
    }

    // ---- by lot

    public long ways(int n, int r, boolean once) {
        if (!Chances.isCrowd(n) || !Chances.isRingCount(r)) {
            return refuse(BAD_NUMBER);
        }
        trouble = 0;
        return chances.waysInto(n, r, once);
    }

    public long odds(int n, int r, boolean once, boolean lower) {
        if (!Chances.isCrowd(n) || !Chances.isRingCount(r)) {
            return refuse(BAD_NUMBER);
        }
        long all = chances.allWays(n, once);
        if (all == 0) {
            return refuse(THERE_IS_NONE);
        }
        trouble = 0;
        return Chances.inLowestTerms(chances.waysInto(n, r, once), all, lower);
    }

    public long mean(int n, boolean once, boolean lower) {
        if (!Chances.isCrowd(n)) {
            return refuse(BAD_NUMBER);
        }
        long all = chances.allWays(n, once);
        if (all == 0) {
            return refuse(THERE_IS_NONE);
        }
        trouble = 0;
        return Chances.inLowestTerms(chances.allRings(n, once), all, lower);
    }

    // ---- acts

    private void makeMove(int move) {
        now.key = board.after(move);
        board.lay(now);
    }

    public int move(int move) {
        if (!isMove(move)) {
            return refuse(NONE_SUCH);
        }
        if (!board.allows(move)) {
            return refuse(NOT_SO);
        }
        history.keep(now);
        makeMove(move);
        return grant(board.left);
    }

    public int parts(int link) {
        if (!isLink(link)) {
            return refuse(NONE_SUCH);
        }
        if (now.parted != NOTHING) {
            return refuse(NOT_SO);
        }
        history.keep(now);
        int before = board.left;
        now.letGo(rings, link);
        board.lay(now);
        return grant(before - board.left);
    }

    public int lifts(int crossing) {
        if (!isCrossing(crossing)) {
            return refuseSigned(NONE_SUCH);
        }
        if (!board.isLeft(crossing)) {
            return refuseSigned(NOT_SO);
        }
        history.keep(now);
        now.turnOver(crossing);
        board.lay(now);
        return grant(board.signOf(crossing));
    }

    public int lot() {
        if (!there) {
            return refuse(NONE_SUCH);
        }
        if (board.count == 0) {
            return refuse(THERE_IS_NONE);
        }
        history.keep(now);
        now.seed = Moment.seedBehind(now.seed);
        int move = board.drawn(now.seed);
        makeMove(move);
        return grant(move);
    }

    public int call() {
        if (!there) {
            return refuse(NONE_SUCH);
        }
        int move = within.bestCall(board, now);
        if (move == NOTHING) {
            return refuse(THERE_IS_NONE);
        }
        history.keep(now);
        makeMove(move);
        return grant(move);
    }

    public boolean seed(int v) {
        if (!there) {
            return refuseFlatly(NONE_SUCH);
        }
        if (!isSeed(v)) {
            return refuseFlatly(BAD_NUMBER);
        }
        now.seed = v;
        trouble = 0;
        return true;
    }

    public boolean undo() {
        if (!history.giveLatest(now)) {
            return refuseFlatly(THERE_IS_NONE);
        }
        board.lay(now);
        trouble = 0;
        return true;
    }

    public int mark() {
        if (!there) {
            return refuse(NONE_SUCH);
        }
        int number = history.setMark(now);
        return number == NONE ? refuse(NO_ROOM) : grant(number);
    }

    public boolean back(int mark) {
        if (!history.giveMarked(mark, now)) {
            return refuseFlatly(NONE_SUCH);
        }
        board.lay(now);
        trouble = 0;
        return true;
    }

    // ---- what is told

    public int led(int i) throws NoSuchElementException {
        int seen = 0;
        for (int x = 0; there && i >= 0 && x < rings.crossings; x++) {
            if (board.isLeft(x)) {
                if (seen == i) {
                    return x;
                }
                seen++;
            }
        }
        throw new NoSuchElementException("no such crossing is left");
    }

    public int size(int what) {
        if (what < 0 || what > 11) {
            return NONE;
        }
        if (what == 11) {
            return reader.tape.filled;
        }
        if (!there) {
            return 0;
        }
        return what < 7 ? toldSize(what) : changingSize(what);
    }

    private int toldSize(int what) {
        switch (what) {
            case 0:
                return rings.people;
            case 1:
                return rings.links;
            case 2:
                return rings.count;
            case 3:
                return rings.crossings;
            case 4:
                return rings.standings;
            case 5:
                return rings.tall;
            default:
                return rings.once ? 1 : 0;
        }
    }

    private int changingSize(int what) {
        switch (what) {
            case 7:
                return now.parted;
            case 8:
                return now.seed;
            case 9:
                return history.kept;
            default:
                return history.marked;
        }
    }

    public int trouble() {
        return trouble;
    }

    /** What the LINES of a text tell, before anybody walks round the RINGS. */
    static final class Told {
        private boolean begun;
        private boolean once;
        private int tall;
        private int people;
        private int links;
        private int crossings;
        private int plus;
        private final long[] personNames = new long[MOST_PEOPLE];
        private final int[] talls = new int[MOST_PEOPLE];
        private final long[] linkNames = new long[MOST_LINKS];
        /** By twice a LINK, and 1 for its second PERSON: twice a PERSON, and 1 for his right hand. */
        private final int[] handAt = new int[2 * MOST_LINKS];
        private final int[] linkIn = new int[2 * MOST_PEOPLE];
        /** By ten times a LINK and a place: 1 more than the pass there, 0 without one. */
        private final int[] passes = new int[MOST_LINKS * DIGITS];
        private final int[] linkUnder = new int[MOST_CROSSINGS];
        private final int[] linkOver = new int[MOST_CROSSINGS];

        void clear() {
            begun = false;
            once = false;
            tall = 0;
            people = 0;
            links = 0;
            crossings = 0;
            plus = 0;
            Arrays.fill(linkIn, NONE);
            Arrays.fill(passes, 0);
        }

        int personNamed(long name) {
            return indexOf(personNames, people, name);
        }

        int linkNamed(long name) {
            return indexOf(linkNames, links, name);
        }

        private static int indexOf(long[] names, int count, long name) {
            for (int i = 0; i < count && i < names.length; i++) {
                if (names[i] == name) {
                    return i;
                }
            }
            return NONE;
        }

        void addPerson(long name, int height) {
            if (people < MOST_PEOPLE) {
                personNames[people] = name;
                talls[people] = height;
                people++;
            }
        }

        void addLink(long name, int hand, int otherHand) {
            if (links < MOST_LINKS && isHand(hand) && isHand(otherHand)) {
                linkNames[links] = name;
                handAt[2 * links] = hand;
                handAt[2 * links + 1] = otherHand;
                linkIn[hand] = links;
                linkIn[otherHand] = links;
                links++;
            }
        }

        private static boolean isHand(int hand) {
            return hand >= 0 && hand < 2 * MOST_PEOPLE;
        }

        boolean isHeld(int hand) {
            return isHand(hand) && linkIn[hand] != NONE;
        }

        boolean areHeld(int person, int other) {
            for (int link = 0; link < links; link++) {
                int one = handAt[2 * link] / 2;
                int two = handAt[2 * link + 1] / 2;
                if (one == person && two == other || one == other && two == person) {
                    return true;
                }
            }
            return false;
        }

        private static boolean isPlace(int link, int place) {
            return link >= 0 && link < MOST_LINKS && place >= 0 && place < DIGITS;
        }

        /** 1 more than the pass at a place on a LINK, 0 if it is free. */
        int passOn(int link, int place) {
            return isPlace(link, place) ? passes[DIGITS * link + place] : 0;
        }

        void addPass(int link, int place, boolean over) {
            if (isPlace(link, place) && crossings < MOST_CROSSINGS) {
                passes[DIGITS * link + place] = 2 * crossings + (over ? 2 : 1);
                if (over) {
                    linkOver[crossings] = link;
                } else {
                    linkUnder[crossings] = link;
                }
            }
        }

        void addCrossing(boolean isPlus) {
            if (crossings < MOST_CROSSINGS) {
                if (isPlus) {
                    plus |= 1 << crossings;
                }
                crossings++;
            }
        }

        boolean lacksSomething() {
            for (int hand = 0; hand < 2 * people; hand++) {
                if (!isHeld(hand)) {
                    return true;
                }
            }
            return people == 0;
        }
    }

    /** THE TAPE, and how it is cut into TOKENS. */
    static final class Tape {
        private static final int ROOM = 900;
        private static final int BYTES_A_FEED = 20;
        private static final int MOST_LETTERS = 8;
        private static final int MOST_FIGURES = 3;
        private static final int BLANK = 32;

        private static final int END = 0;
        private static final int WORD = 1;
        private static final int WHOLE = 2;
        private static final int SEMICOLON = 3;
        private static final int NO_TOKEN = 4;

        /** Words that mean something: the first four can't be NAMES. */
        private static final int TANGLE = 0;
        private static final int PERSON = 1;
        private static final int HOLD = 2;
        private static final int CROSS = 3;
        private static final int TALL = 4;
        private static final int ONCE = 5;
        private static final int LEFT = 6;
        private static final int RIGHT = 7;
        private static final int OVER = 8;
        private static final int PLUS = 9;
        private static final int MINUS = 10;
        private static final int OTHER = 11;

        private final int[] bytes = new int[ROOM];
        private int filled;

        private final long[] words = new long[OTHER];
        private final int[] kinds = new int[ROOM + 1];
        private final int[] starts = new int[ROOM + 1];
        /** Of a WHOLE its worth, of a WORD which one it is. */
        private final int[] values = new int[ROOM + 1];
        private final long[] spellings = new long[ROOM + 1];
        private int count;

        Tape() {
            words[TANGLE] = spelling("tangle");
            words[PERSON] = spelling("person");
            words[HOLD] = spelling("hold");
            words[CROSS] = spelling("cross");
            words[TALL] = spelling("tall");
            words[ONCE] = spelling("once");
            words[LEFT] = spelling("left");
            words[RIGHT] = spelling("right");
            words[OVER] = spelling("over");
            words[PLUS] = spelling("plus");
            words[MINUS] = spelling("minus");
        }

        private static long spelling(String word) {
            long spelt = 0;
            for (int i = 0; i < word.length(); i++) {
                spelt = withLetter(spelt, word.charAt(i));
            }
            return spelt;
        }

        /** Five bits a letter, so that eight of them make a number of their own. */
        private static long withLetter(long spelt, int letter) {
            return spelt << 5 | letter - 'a' + 1;
        }

        boolean hasRoom() {
            return filled + BYTES_A_FEED <= ROOM;
        }

        void take(int fourBytes) {
            for (int shift = 24; shift >= 0 && filled < ROOM; shift -= 8) {
                bytes[filled] = fourBytes >>> shift & 255;
                filled++;
            }
        }

        /** Cuts the first n bytes up to the end, or to the first byte that begins no TOKEN; the tape is empty then. */
        void cut(int n) {
            int end = Math.min(n, ROOM);
            count = 0;
            int at = 0;
            for (int i = 0; i <= end && at <= end; i++) {
                while (at < end && bytes[at] == BLANK) {
                    at++;
                }
                at = at < end ? cutOne(at, end) : ends(end);
            }
            filled = 0;
        }

        /** Both this and cutOne() answer where to go on: past the end if there is nothing more to cut. */
        private int ends(int end) {
            addToken(END, end, 0, 0);
            return end + 1;
        }

        private int cutOne(int at, int end) {
            int b = bytes[at];
            int past = at + 1;
            if (isLetter(b)) {
                while (past < end && isLetter(bytes[past])) {
                    past++;
                }
                if (past - at <= MOST_LETTERS) {
                    addWord(at, past);
                    return past;
                }
            } else if (isFigure(b)) {
                while (past < end && isFigure(bytes[past])) {
                    past++;
                }
                if (past - at <= MOST_FIGURES) {
                    addWhole(at, past);
                    return past;
                }
            } else if (b == ';') {
                addToken(SEMICOLON, at, 0, 0);
                return past;
            }
            addToken(NO_TOKEN, at, 0, 0);
            return end + 1;
        }

        private static boolean isLetter(int b) {
            return b >= 'a' && b <= 'z';
        }

        private static boolean isFigure(int b) {
            return b >= '0' && b <= '9';
        }

        private void addWord(int at, int past) {
            long spelt = 0;
            for (int i = at; i < past; i++) {
                spelt = withLetter(spelt, bytes[i]);
            }
            int which = 0;
            while (which < OTHER && words[which] != spelt) {
                which++;
            }
            addToken(WORD, at, which, spelt);
        }

        private void addWhole(int at, int past) {
            int worth = 0;
            for (int i = at; i < past; i++) {
                worth = 10 * worth + bytes[i] - '0';
            }
            addToken(WHOLE, at, worth, 0);
        }

        private void addToken(int kind, int start, int value, long spelt) {
            if (count <= ROOM) {
                kinds[count] = kind;
                starts[count] = start;
                values[count] = value;
                spellings[count] = spelt;
                count++;
            }
        }
    }

    /** How a text is read from the left until its first FAULT. */
    static final class Reader {
        private static final int FORM = 1;
        private static final int UNTOLD = 2;
        private static final int AGAIN = 3;
        private static final int BOUNDS = 4;
        private static final int MANY = 5;
        private static final int LACKS = 6;

        private final Tape tape = new Tape();
        private final Told told = new Told();
        private int fault;
        private int place;

        /** The TOKEN that is looked at. */
        private int token;
        /** The number of what was taken last: a WHOLE's worth, a PERSON, a LINK, a hand. */
        private int taken;
        private long name;

        /** Whether the first n bytes are a TANGLE. */
        boolean reads(int n) {
            tape.cut(n);
            told.clear();
            fault = 0;
            place = 0;
            token = NONE;
            // Each LINE has a TOKEN at least, and the last TOKEN ends no LINE well but at the end.
            for (int i = 0; i < tape.count; i++) {
                if (!readsLine()) {
                    return false;
                }
                if (kind() == Tape.END) {
                    return !told.lacksSomething() || isFaulty(LACKS);
                }
                if (kind() != Tape.SEMICOLON) {
                    return isFaulty(FORM);
                }
            }
            return isFaulty(FORM);
        }

        private boolean isFaulty(int number) {
            fault = number;
            place = tape.starts[token];
            return false;
        }

        private void advance() {
            if (token < tape.count - 1) {
                token++;
            }
        }

        private int kind() {
            return tape.kinds[token];
        }

        private boolean isWord(int which) {
            return tape.kinds[token] == Tape.WORD && tape.values[token] == which;
        }

        /** A LINE, and the TOKEN behind it. */
        private boolean readsLine() {
            advance();
            if (isWord(Tape.TANGLE)) {
                return readsTangle();
            }
            boolean person = isWord(Tape.PERSON);
            boolean hold = isWord(Tape.HOLD);
            if (!person && !hold && !isWord(Tape.CROSS)) {
                return isFaulty(FORM);
            }
            if (!told.begun) {
                return isFaulty(LACKS);
            }
            boolean good = person ? readsPerson() : hold ? readsHold() : readsCross();
            if (good) {
                advance();
            }
            return good;
        }

        private boolean readsTangle() {
            if (told.begun) {
                return isFaulty(AGAIN);
            }
            if (!takesWord(Tape.TALL) || !takesWhole(0, 99)) {
                return false;
            }
            told.begun = true;
            told.tall = taken;
            advance();
            if (isWord(Tape.ONCE)) {
                told.once = true;
                advance();
            }
            return true;
        }

        private boolean readsPerson() {
            if (told.people >= MOST_PEOPLE) {
                return isFaulty(MANY);
            }
            if (!takesNewName()) {
                return false;
            }
            long personName = name;
            if (!takesWord(Tape.TALL) || !takesWhole(1, 99)) {
                return false;
            }
            told.addPerson(personName, taken);
            return true;
        }

        private boolean readsHold() {
            if (told.links >= MOST_LINKS) {
                return isFaulty(MANY);
            }
            if (!takesNewName()) {
                return false;
            }
            long linkName = name;
            if (!takesPerson()) {
                return false;
            }
            int person = taken;
            if (!takesHand(person)) {
                return false;
            }
            int hand = taken;
            if (!takesPerson()) {
                return false;
            }
            int other = taken;
            if (other == person || told.once && told.areHeld(person, other)) {
                return isFaulty(AGAIN);
            }
            if (!takesHand(other)) {
                return false;
            }
            told.addLink(linkName, hand, taken);
            return true;
        }

        private boolean readsCross() {
            if (told.crossings >= MOST_CROSSINGS) {
                return isFaulty(MANY);
            }
            if (!takesPass(true) || !takesWord(Tape.OVER) || !takesPass(false)) {
                return false;
            }
            advance();
            if (!isWord(Tape.PLUS) && !isWord(Tape.MINUS)) {
                return isFaulty(FORM);
            }
            told.addCrossing(isWord(Tape.PLUS));
            return true;
        }

        private boolean takesPass(boolean over) {
            if (!takesLink()) {
                return false;
            }
            int link = taken;
            if (!takesWhole(1, MOST_PLACE)) {
                return false;
            }
            if (told.passOn(link, taken) != 0) {
                return isFaulty(AGAIN);
            }
            told.addPass(link, taken, over);
            return true;
        }

        private boolean takesWord(int which) {
            advance();
            return isWord(which) || isFaulty(FORM);
        }

        private boolean takesWhole(int least, int most) {
            advance();
            if (kind() != Tape.WHOLE) {
                return isFaulty(FORM);
            }
            taken = tape.values[token];
            return taken >= least && taken <= most || isFaulty(BOUNDS);
        }

        private boolean takesName() {
            advance();
            name = tape.spellings[token];
            return kind() == Tape.WORD && tape.values[token] > Tape.CROSS || isFaulty(FORM);
        }

        private boolean takesNewName() {
            if (!takesName()) {
                return false;
            }
            boolean again = told.personNamed(name) != NONE || told.linkNamed(name) != NONE;
            return !again || isFaulty(AGAIN);
        }

        private boolean takesPerson() {
            if (!takesName()) {
                return false;
            }
            taken = told.personNamed(name);
            return taken != NONE || isFaulty(UNTOLD);
        }

        private boolean takesLink() {
            if (!takesName()) {
                return false;
            }
            taken = told.linkNamed(name);
            return taken != NONE || isFaulty(UNTOLD);
        }

        private boolean takesHand(int person) {
            advance();
            if (!isWord(Tape.LEFT) && !isWord(Tape.RIGHT)) {
                return isFaulty(FORM);
            }
            taken = 2 * person + (isWord(Tape.RIGHT) ? 1 : 0);
            return !told.isHeld(taken) || isFaulty(AGAIN);
        }
    }

    /** What of a TANGLE never changes: who is in which RING, how LINKS are gone along, STANDINGS, GOERS. */
    static final class Rings {
        private int people;
        private int links;
        private int crossings;
        private int standings;
        private int count;
        private int tall;
        private boolean once;
        /** What stands where at first, and which SIGNS are plus then. */
        private long key;
        private int plus;
        private final int[] members = new int[MOST_PEOPLE];
        private final int[] firstMember = new int[MOST_PEOPLE + 1];
        private final int[] firstStanding = new int[MOST_PEOPLE + 1];
        private final int[] partner = new int[2 * MOST_PEOPLE];
        private final int[] linkIn = new int[2 * MOST_PEOPLE];
        private final int[] along = new int[MOST_LINKS];
        private final int[] linkRing = new int[MOST_LINKS];
        private final int[] linkStart = new int[MOST_LINKS];
        private final int[] linkGoer = new int[MOST_LINKS];
        /** One longer than any STANDING, so that a shift past the last one is still in the row. */
        private final int[] standingLink = new int[NIBBLES];
        private final boolean[] linkFits = new boolean[MOST_LINKS];

        /** The RING of a PERSON, NONE while nobody has come to him. */
        int ringWith(int person) {
            int link = linkIn[2 * person];
            return link < 0 ? NONE : linkRing[link];
        }

        int peopleIn(int ring) {
            return ring >= 0 && ring < count ? firstMember[ring + 1] - firstMember[ring] : 0;
        }

        void trace(Told told) {
            people = told.people;
            links = told.links;
            crossings = told.crossings;
            tall = told.tall;
            once = told.once;
            standings = 0;
            count = 0;
            key = 0;
            System.arraycopy(told.linkIn, 0, linkIn, 0, linkIn.length);
            Arrays.fill(linkRing, NONE);
            for (int link = 0; link < links; link++) {
                traceHands(told, link);
            }
            int traced = 0;
            for (int person = 0; person < people; person++) {
                if (ringWith(person) == NONE) {
                    traced = traceRing(told, person, traced);
                }
            }
            traceSigns(told);
        }

        private void traceHands(Told told, int link) {
            int hand = told.handAt[2 * link];
            int other = told.handAt[2 * link + 1];
            partner[hand] = other;
            partner[other] = hand;
            int one = Math.min(hand / 2, other / 2);
            int two = Math.max(hand / 2, other / 2);
            linkGoer[link] = told.talls[two] < told.talls[one] ? two : one;
            linkFits[link] = told.talls[linkGoer[link]] <= tall;
        }

        /** Goes round from the least PERSON of a RING; answers how many people are traced then. */
        private int traceRing(Told told, int least, int tracedBefore) {
            int traced = tracedBefore;
            int hand = 2 * least;
            firstMember[count] = traced;
            firstStanding[count] = standings;
            for (int i = 0; i < people && traced < people && linkIn[hand] >= 0; i++) {
                members[traced] = hand / 2;
                traced++;
                int link = linkIn[hand];
                traceLink(told, link, told.handAt[2 * link] == hand);
                if (partner[hand] / 2 == least) {
                    break;
                }
                hand = partner[hand] ^ 1;
            }
            count++;
            firstMember[count] = traced;
            firstStanding[count] = standings;
            return traced;
        }

        private void traceLink(Told told, int link, boolean isAlong) {
            along[link] = isAlong ? 1 : 0;
            linkRing[link] = count;
            linkStart[link] = standings;
            for (int i = 1; i <= MOST_PLACE; i++) {
                long pass = told.passOn(link, isAlong ? i : MOST_PLACE + 1 - i);
                if (pass != 0 && standings < MOST_STANDINGS) {
                    key |= pass << 4 * standings;
                    standingLink[standings] = link;
                    standings++;
                }
            }
        }

        private void traceSigns(Told told) {
            plus = told.plus;
            for (int x = 0; x < crossings; x++) {
                if (along[told.linkOver[x]] != along[told.linkUnder[x]]) {
                    plus ^= 1 << x;
                }
            }
        }
    }

    /** What of a TANGLE changes. */
    static final class Moment {
        /** Four bits for each STANDING: 1 more than what stands there, 0 nothing any more. */
        private long key;
        private int plus;
        private int parted = NOTHING;
        private int seed;

        void begin(long firstKey, int firstPlus) {
            key = firstKey;
            plus = firstPlus;
            parted = NOTHING;
            seed = 0;
        }

        void become(Moment other) {
            key = other.key;
            plus = other.plus;
            parted = other.parted;
            seed = other.seed;
        }

        static int seedBehind(int seed) {
            return (75 * seed + 74) % SEEDS;
        }

        static int passAt(long key, int standing) {
            return (int) (key >>> 4 * standing & 15) - 1;
        }

        void letGo(Rings rings, int link) {
            int gone = 0;
            for (int s = 0; s < rings.standings; s++) {
                int pass = passAt(key, s);
                if (pass != NONE && rings.standingLink[s] == link) {
                    gone |= 1 << pass / 2;
                }
            }
            for (int s = 0; s < rings.standings; s++) {
                int pass = passAt(key, s);
                if (pass != NONE && (gone >> pass / 2 & 1) != 0) {
                    key &= ~(15L << 4 * s);
                }
            }
            parted = link;
        }

        void turnOver(int crossing) {
            // The pair stands as 2x + 1 and 2x + 2, which differ by what this turns about.
            long swap = 2 * crossing + 1 ^ 2 * crossing + 2;
            for (int s = 0; s < MOST_STANDINGS; s++) {
                int pass = passAt(key, s);
                if (pass != NONE && pass / 2 == crossing) {
                    key ^= swap << 4 * s;
                }
            }
            plus ^= 1 << crossing;
        }
    }

    /** What can be undone, and MARKS. */
    static final class History {
        private static final int MOST_KEPT = 16;
        private static final int MOST_MARKS = 3;

        private final Moment[] moments = new Moment[MOST_KEPT];
        private final Moment[] marks = new Moment[MOST_MARKS];
        private int kept;
        private int marked;
        /** Where the next Moment is kept: over the oldest one once all are full. */
        private int free;

        History() {
            for (int i = 0; i < MOST_KEPT; i++) {
                moments[i] = new Moment();
            }
            for (int i = 0; i < MOST_MARKS; i++) {
                marks[i] = new Moment();
            }
        }

        void clear() {
            kept = 0;
            marked = 0;
            free = 0;
        }

        void keep(Moment now) {
            moments[free & MOST_KEPT - 1].become(now);
            free = free + 1 & MOST_KEPT - 1;
            kept = Math.min(kept + 1, MOST_KEPT);
        }

        boolean giveLatest(Moment now) {
            if (kept == 0) {
                return false;
            }
            kept--;
            free = free - 1 & MOST_KEPT - 1;
            now.become(moments[free]);
            return true;
        }

        int setMark(Moment now) {
            if (marked >= MOST_MARKS) {
                return NONE;
            }
            marks[marked].become(now);
            marked++;
            return marked - 1;
        }

        boolean giveMarked(int number, Moment now) {
            if (number < 0 || number >= marked) {
                return false;
            }
            now.become(marks[number]);
            kept = 0;
            return true;
        }
    }

    /** A Moment laid out: where each pass stands, what is BESIDE what, which MOVES MAY be. */
    static final class Board {
        private static final int MOST_MOVES = 256;

        private final Rings rings;
        private long key;
        private int plus;
        private int parted = NOTHING;
        private int left;
        private final int[] standing = new int[NIBBLES];
        /** Passes as they are come to, RING by RING, an open one from its end. */
        private final int[] walk = new int[NIBBLES];
        private final int[] walkStart = new int[MOST_PEOPLE + 1];
        /** By CROSSING, as bits: the ones whose over pass is BESIDE its over pass, and so on. */
        private final int[] overByOver = new int[DIGITS];
        private final int[] overByUnder = new int[DIGITS];
        private final int[] underByUnder = new int[DIGITS];
        private final int[] numbers = new int[MOST_MOVES];
        private int count;

        Board(Rings itsRings) {
            rings = itsRings;
        }

        static boolean isNumber(int move, int crossings) {
            if (move < 0 || move >= PAST_STEPS) {
                return false;
            }
            if (move < FIRST_SLIP) {
                return move < crossings;
            }
            int x = firstOf(move);
            int y = secondOf(move);
            if (move < FIRST_STEP) {
                return x < y && y < crossings;
            }
            int z = thirdOf(move);
            return x < crossings && y < crossings && z < crossings && x != y && x != z && y != z;
        }

        private static int firstOf(int move) {
            return move < FIRST_SLIP ? move : move < FIRST_STEP ? (move - FIRST_SLIP) / 10 : move / 100 % 10;
        }

        private static int secondOf(int move) {
            return move < FIRST_STEP ? move % 10 : move / 10 % 10;
        }

        private static int thirdOf(int move) {
            return move % 10;
        }

        /** The CROSSINGS that a MOVE names, as bits. */
        static int touchedBy(int move) {
            int bits = 1 << firstOf(move);
            if (move >= FIRST_SLIP) {
                bits |= 1 << secondOf(move);
            }
            if (move >= FIRST_STEP) {
                bits |= 1 << thirdOf(move);
            }
            return bits;
        }

        void lay(Moment moment) {
            layOut(moment.key, moment.plus, moment.parted);
        }

        void layOut(long newKey, int newPlus, int newParted) {
            key = newKey;
            plus = newPlus;
            parted = newParted;
            for (int x = 0; x < rings.crossings; x++) {
                standing[2 * x] = NONE;
                standing[2 * x + 1] = NONE;
                overByOver[x] = 0;
                overByUnder[x] = 0;
                underByUnder[x] = 0;
            }
            int walked = 0;
            for (int r = 0; r < rings.count; r++) {
                walkStart[r] = walked;
                walked = walkRound(r, walked);
            }
            walkStart[rings.count] = walked;
            left = walked / 2;
            count = 0;
            for (int x = 0; x < rings.crossings; x++) {
                listTurn(x);
            }
            for (int x = 0; x < rings.crossings; x++) {
                listSlips(x);
            }
            for (int a = 0; a < rings.crossings; a++) {
                listSteps(a);
            }
        }

        boolean isOpen(int ring) {
            return parted >= 0 && parted < MOST_LINKS && rings.linkRing[parted] == ring;
        }

        /** Answers how many passes are walked over then. */
        private int walkRound(int ring, int walkedBefore) {
            int from = rings.firstStanding[ring];
            int to = rings.firstStanding[ring + 1];
            boolean open = isOpen(ring);
            int s = open ? rings.linkStart[parted] : from;
            int walked = walkedBefore;
            for (int i = from; i < to; i++) {
                if (s >= to) {
                    s = from;
                }
                int pass = Moment.passAt(key, s);
                if (pass != NONE) {
                    standing[pass] = s;
                    walk[walked] = pass;
                    if (walked > walkedBefore) {
                        join(walk[walked - 1], pass);
                    }
                    walked++;
                }
                s++;
            }
            if (!open && walked - walkedBefore > 1) {
                join(walk[walked - 1], walk[walkedBefore]);
            }
            return walked;
        }

        private void join(int pass, int other) {
            int x = pass / 2;
            int y = other / 2;
            boolean over = (pass & 1) != 0;
            boolean otherOver = (other & 1) != 0;
            if (over && otherOver) {
                overByOver[x] |= 1 << y;
                overByOver[y] |= 1 << x;
            } else if (!over && !otherOver) {
                underByUnder[x] |= 1 << y;
                underByUnder[y] |= 1 << x;
            } else if (over) {
                overByUnder[y] |= 1 << x;
            } else {
                overByUnder[x] |= 1 << y;
            }
        }

        private static boolean has(int bits, int x) {
            return (bits >> x & 1) != 0;
        }

        boolean isLeft(int crossing) {
            return standing[2 * crossing] != NONE;
        }

        int signOf(int crossing) {
            if (!isLeft(crossing)) {
                return 0;
            }
            return has(plus, crossing) ? 1 : -1;
        }

        private int ringOfPass(int pass) {
            return rings.linkRing[rings.standingLink[standing[pass]]];
        }

        /** All SIGNS of CROSSINGS between two RINGS, or of one with itself. */
        int signsBetween(int ring, int other) {
            int sum = 0;
            for (int x = 0; x < rings.crossings; x++) {
                if (isLeft(x)) {
                    int under = ringOfPass(2 * x);
                    int over = ringOfPass(2 * x + 1);
                    if (under == ring && over == other || under == other && over == ring) {
                        sum += signOf(x);
                    }
                }
            }
            return sum;
        }

        int seenBy(int person) {
            int seen = 0;
            for (int i = 0; i < 2 * left; i++) {
                int link = rings.standingLink[standing[walk[i]]];
                if (link == rings.linkIn[2 * person] || link == rings.linkIn[2 * person + 1]) {
                    seen |= 1 << walk[i] / 2;
                }
            }
            return seen;
        }

        private void listTurn(int x) {
            if (has(overByUnder[x], x)) {
                addNumber(x);
            }
        }

        private void addNumber(int move) {
            if (count < MOST_MOVES) {
                numbers[count] = move;
                count++;
            }
        }

        /** Those with which a CROSSING can be slipped off, as bits. */
        private int slipsWith(int x) {
            int unlike = has(plus, x) ? ~plus : plus;
            return overByOver[x] & underByUnder[x] & unlike;
        }

        private void listSlips(int x) {
            int with = slipsWith(x);
            for (int y = x + 1; with != 0 && y < rings.crossings; y++) {
                if (has(with, y) && fits(x, y)) {
                    addNumber(FIRST_SLIP + 10 * x + y);
                }
            }
        }

        /** Those that can be the last of a step through a and b, as bits. */
        private int stepsWith(int a, int b) {
            return overByUnder[a] & underByUnder[b] & ~(1 << a) & ~(1 << b);
        }

        private void listSteps(int a) {
            if (overByOver[a] == 0 || overByUnder[a] == 0) {
                return;
            }
            for (int b = 0; b < rings.crossings; b++) {
                int with = has(overByOver[a], b) && b != a ? stepsWith(a, b) : 0;
                for (int c = 0; with != 0 && c < rings.crossings; c++) {
                    if (has(with, c) && fits(b, c)) {
                        addNumber(FIRST_STEP + 100 * a + 10 * b + c);
                    }
                }
            }
        }

        /** The LINK on which the lesser STANDING of the under passes of two CROSSINGS is. */
        private int lowLink(int x, int y) {
            int one = standing[2 * x];
            int two = standing[2 * y];
            return rings.standingLink[one < two ? one : two];
        }

        private boolean fits(int x, int y) {
            return rings.linkFits[lowLink(x, y)];
        }

        /** Whether a MOVE of a number that is one can be, however tall its GOER. */
        boolean can(int move) {
            int x = firstOf(move);
            int y = secondOf(move);
            if (move < FIRST_SLIP) {
                return has(overByUnder[x], x);
            }
            if (move < FIRST_STEP) {
                return has(slipsWith(x), y);
            }
            return has(overByOver[x], y) && has(stepsWith(x, y), thirdOf(move));
        }

        private int goerLink(int move) {
            int x = move < FIRST_STEP ? firstOf(move) : secondOf(move);
            int y = move < FIRST_STEP ? secondOf(move) : thirdOf(move);
            return lowLink(x, y);
        }

        boolean allows(int move) {
            return can(move) && (move < FIRST_SLIP || rings.linkFits[goerLink(move)]);
        }

        /** GOER of a MOVE that can be. */
        int whoGoes(int move) {
            return move < FIRST_SLIP ? NOTHING : rings.linkGoer[goerLink(move)];
        }

        int leftBehind(int move) {
            return move < FIRST_SLIP ? left - 1 : move < FIRST_STEP ? left - 2 : left;
        }

        int drawn(int draw) {
            return count == 0 ? NOTHING : numbers[draw % count];
        }

        /** What stands where behind a MOVE that can be. */
        long after(int move) {
            int x = firstOf(move);
            int y = secondOf(move);
            if (move < FIRST_SLIP) {
                return key & ~placesOf(x);
            }
            if (move < FIRST_STEP) {
                return key & ~placesOf(x) & ~placesOf(y);
            }
            int z = thirdOf(move);
            return key ^ exchange(2 * x + 1, 2 * y + 1) ^ exchange(2 * x, 2 * z + 1) ^ exchange(2 * y, 2 * z);
        }

        private long placesOf(int x) {
            return 15L << 4 * standing[2 * x] | 15L << 4 * standing[2 * x + 1];
        }

        /** The bits that turn when two passes change places. */
        private long exchange(int pass, int other) {
            long turned = pass + 1 ^ other + 1;
            return turned << 4 * standing[pass] | turned << 4 * standing[other];
        }

        void make(int move) {
            layOut(after(move), plus, parted);
        }
    }

    /** All TANGLES that can be come to, level by level. */
    static final class Search {
        private static final int OVER = -3;
        private static final int ROOM = 4000;
        private static final int SLOTS = 8192;
        private static final int SLOT_SHIFT = 51;
        private static final long SCATTER = 0x9E3779B97F4A7C15L;

        private final Board board;
        private final long[] keys = new long[ROOM];
        /** The first MOVE on the way by which each was come to first: as lesser ones go first, the least one. */
        private final int[] firsts = new int[ROOM];
        private final int[] slots = new int[ROOM];
        /** 1 more than the index of the key that has this slot, 0 if none has. */
        private final int[] table = new int[SLOTS];
        private int count;
        private int looseAt;
        private boolean over;

        Search(Rings rings) {
            board = new Board(rings);
        }

        /** NEXT in d; OVER if FEWEST in d is refused. */
        int firstToLoose(Moment from, int d) {
            int k = grow(from, d, true);
            if (k == OVER) {
                return OVER;
            }
            return k > 0 && looseAt >= 0 ? firsts[looseAt] : NOTHING;
        }

        int countReached(Moment from, int d) {
            return grow(from, d, false) == OVER ? OVER : count;
        }

        int leastLeft(Moment from, int d) {
            if (grow(from, d, false) == OVER) {
                return OVER;
            }
            int least = MOST_CROSSINGS;
            for (int i = 0; i < count; i++) {
                least = Math.min(least, crossingsIn(keys[i]));
            }
            return least;
        }

        private static int crossingsIn(long key) {
            int passes = 0;
            for (int s = 0; s < MOST_STANDINGS; s++) {
                passes += Moment.passAt(key, s) == NONE ? 0 : 1;
            }
            return passes / 2;
        }

        private void forget() {
            for (int i = 0; i < count; i++) {
                table[slots[i]] = 0;
            }
            count = 0;
            looseAt = NONE;
            over = false;
        }

        /** FEWEST in d, OVER if it is refused; or else, not only till it is LOOSE, all that is come to in d. */
        int grow(Moment from, int d, boolean tillLoose) {
            forget();
            add(from.key, NONE);
            if (tillLoose && looseAt != NONE) {
                return 0;
            }
            int spread = 0;
            for (int k = 1; k <= d && spread < count; k++) {
                int known = count;
                for (int i = spread; i < known && !over; i++) {
                    spreadFrom(i, from);
                }
                if (over) {
                    return OVER;
                }
                if (tillLoose && looseAt != NONE) {
                    return k;
                }
                spread = known;
            }
            return NOTHING;
        }

        private void spreadFrom(int index, Moment from) {
            board.layOut(keys[index], from.plus, from.parted);
            for (int i = 0; i < board.count && !over; i++) {
                int move = board.numbers[i];
                add(board.after(move), index == 0 ? move : firsts[index]);
            }
        }

        private void add(long key, int first) {
            int slot = slotFor(key);
            if (table[slot] != 0) {
                return;
            }
            if (count >= ROOM) {
                over = true;
            } else {
                keys[count] = key;
                firsts[count] = first;
                slots[count] = slot;
                if (key == 0) {
                    looseAt = count;
                }
                count++;
                table[slot] = count;
            }
        }

        /** The slot that a key has, or else may have: the table is never full, so there is one. */
        private int slotFor(long key) {
            int slot = (int) (key * SCATTER >>> SLOT_SHIFT);
            for (int i = 0; i < SLOTS; i++) {
                int index = table[slot] - 1;
                if (index < 0 || keys[index] == key) {
                    break;
                }
                slot = slot + 1 & SLOTS - 1;
            }
            return slot;
        }
    }

    /** What those within, and a caller, choose; nothing of the TANGLE is changed by it. */
    static final class Within {
        private final Rings rings;
        private final Board trial;

        Within(Rings itsRings) {
            rings = itsRings;
            trial = new Board(itsRings);
        }

        /** CALLER's MOVE from a board that has been laid by a Moment. */
        int bestCall(Board board, Moment now) {
            int best = NOTHING;
            int least = MOST_CROSSINGS + 1;
            for (int i = 0; i < board.count; i++) {
                int move = board.numbers[i];
                trial.layOut(board.after(move), now.plus, now.parted);
                int leftThen = leastBehind(trial);
                if (leftThen < least) {
                    least = leftThen;
                    best = move;
                }
            }
            return best;
        }

        /** The fewest CROSSINGS that are left behind one MOVE, or none. */
        private static int leastBehind(Board board) {
            int least = board.left;
            for (int i = 0; i < board.count; i++) {
                least = Math.min(least, board.leftBehind(board.numbers[i]));
            }
            return least;
        }

        static int bestOwn(Board board, int person) {
            int seen = board.seenBy(person);
            int best = NOTHING;
            int least = MOST_CROSSINGS + 1;
            for (int i = 0; i < board.count; i++) {
                int move = board.numbers[i];
                boolean sees = (Board.touchedBy(move) & ~seen) == 0;
                if (sees && board.leftBehind(move) < least) {
                    least = board.leftBehind(move);
                    best = move;
                }
            }
            return best;
        }

        int leftBehindRounds(Moment now, int n) {
            trial.lay(now);
            for (int i = 0; i < n; i++) {
                for (int person = 0; person < rings.people; person++) {
                    int move = bestOwn(trial, person);
                    if (move != NOTHING && trial.leftBehind(move) < trial.left) {
                        trial.make(move);
                    }
                }
            }
            return trial.left;
        }

        int looseTries(Moment now, int firstSeed, int n, int d) {
            int seed = firstSeed;
            int came = 0;
            for (int i = 0; i < n; i++) {
                trial.lay(now);
                for (int j = 0; j < d && trial.count > 0; j++) {
                    seed = Moment.seedBehind(seed);
                    trial.make(trial.drawn(seed));
                }
                came += trial.left == 0 ? 1 : 0;
            }
            return came;
        }
    }

    /** ARCS, and in how many ways they can be coloured. */
    static final class Colouring {
        private static final int WIDTH = 16;

        private final int[] overArc = new int[MOST_CROSSINGS];
        private final int[] arcBefore = new int[MOST_CROSSINGS];
        private final int[] arcBehind = new int[MOST_CROSSINGS];
        private final int[][] rows = new int[MOST_CROSSINGS][WIDTH];
        private int arcs;

        int countArcs(Board board, int ringCount) {
            arcs = 0;
            for (int r = 0; r < ringCount; r++) {
                traceArcs(board, r);
            }
            return arcs;
        }

        /** COLOURS by p: those that are free once each CROSSING has bound what it binds. */
        int freeColours(Board board, int ringCount, int p) {
            countArcs(board, ringCount);
            int crossings = 0;
            for (int x = 0; x < MOST_CROSSINGS && x < board.rings.crossings; x++) {
                if (board.isLeft(x)) {
                    fillRow(rows[crossings], x, p);
                    crossings++;
                }
            }
            return arcs - rank(crossings, p);
        }

        private void traceArcs(Board board, int ring) {
            int from = board.walkStart[ring];
            int to = board.walkStart[ring + 1];
            int unders = 0;
            for (int i = from; i < to; i++) {
                unders += (board.walk[i] & 1) == 0 ? 1 : 0;
            }
            boolean open = board.isOpen(ring);
            int past = arcs + (open ? unders + 1 : Math.max(unders, 1));
            // Round and round, what is ahead of the first under pass is the last ARC.
            int arc = open ? arcs : past - 1;
            for (int i = from; i < to; i++) {
                int x = board.walk[i] / 2;
                if ((board.walk[i] & 1) != 0) {
                    overArc[x] = arc;
                } else {
                    arcBefore[x] = arc;
                    arc = arc + 1 < past ? arc + 1 : arcs;
                    arcBehind[x] = arc;
                }
            }
            arcs = past;
        }

        private void fillRow(int[] row, int x, int p) {
            Arrays.fill(row, 0);
            row[overArc[x]] += 2;
            row[arcBefore[x]] += p - 1;
            row[arcBehind[x]] += p - 1;
            for (int i = 0; i < row.length; i++) {
                row[i] = Math.floorMod(row[i], p);
            }
        }

        private int rank(int count, int p) {
            int rank = 0;
            for (int column = 0; column < arcs && column < WIDTH; column++) {
                if (bringsUp(rank, count, column)) {
                    for (int i = rank + 1; i < count; i++) {
                        clearColumn(rows[i], rows[rank], column, p);
                    }
                    rank++;
                }
            }
            return rank;
        }

        /** Whether some row from the given one on has the column; it stands at the given one then. */
        private boolean bringsUp(int row, int count, int column) {
            for (int i = row; i < count; i++) {
                if (rows[i][column] != 0) {
                    int[] found = rows[i];
                    rows[i] = rows[row];
                    rows[row] = found;
                    return true;
                }
            }
            return false;
        }

        private static void clearColumn(int[] row, int[] by, int column, int p) {
            int factor = row[column];
            int pivot = by[column];
            for (int i = 0; factor != 0 && i < row.length && i < by.length; i++) {
                row[i] = Math.floorMod(row[i] * pivot - by[i] * factor, p);
            }
        }
    }

    /** In how many WAYS hands can hold. */
    static final class Chances {
        private static final int LEAST_CROWD = 2;
        private static final int MOST_CROWD = 13;
        private static final int WIDTH = MOST_CROWD + 1;
        /** Far above the steps that Euclid's way takes on any two longs. */
        private static final int MOST_DIVISIONS = 200;

        private final long[] often = new long[WIDTH * WIDTH];
        private final long[] onlyOnce = new long[WIDTH * WIDTH];
        private boolean filled;

        static boolean isCrowd(int n) {
            return n >= LEAST_CROWD && n <= MOST_CROWD;
        }

        static boolean isRingCount(int r) {
            return r >= 0 && r <= MOST_CROWD;
        }

        long waysInto(int n, int r, boolean once) {
            if (!filled) {
                fill(often, 2);
                fill(onlyOnce, 3);
                filled = true;
            }
            if (n < 0 || n > MOST_CROWD || !isRingCount(r)) {
                return 0;
            }
            return once ? onlyOnce[WIDTH * n + r] : often[WIDTH * n + r];
        }

        long allWays(int n, boolean once) {
            long sum = 0;
            for (int r = 0; r <= MOST_CROWD; r++) {
                sum += waysInto(n, r, once);
            }
            return sum;
        }

        long allRings(int n, boolean once) {
            long sum = 0;
            for (int r = 0; r <= MOST_CROWD; r++) {
                sum += r * waysInto(n, r, once);
            }
            return sum;
        }

        private static void fill(long[] table, int leastRing) {
            table[0] = 1;
            for (int n = 1; n <= MOST_CROWD; n++) {
                for (int r = 1; r <= n; r++) {
                    table[WIDTH * n + r] = waysByFirstRing(table, leastRing, n, r);
                }
            }
        }

        /** By how many are in the RING of the first one: his hand takes one of the two hands of each next one. */
        private static long waysByFirstRing(long[] table, int leastRing, int n, int r) {
            long sum = 0;
            long rings = 1;
            for (int m = 1; m <= n; m++) {
                if (m >= leastRing) {
                    sum += rings * table[WIDTH * (n - m) + r - 1];
                }
                rings *= 2L * (n - m);
            }
            return sum;
        }

        static long inLowestTerms(long upper, long lower, boolean wantsLower) {
            long divisor = commonDivisor(upper, lower);
            long wanted = wantsLower ? lower : upper;
            return divisor == 0 ? wanted : wanted / divisor;
        }

        private static long commonDivisor(long a, long b) {
            long big = a;
            long small = b;
            for (int i = 0; small != 0 && i < MOST_DIVISIONS; i++) {
                long rest = big % small;
                big = small;
                small = rest;
            }
            return big;
        }
    }
}
