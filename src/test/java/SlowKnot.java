import java.util.ArrayDeque;
import java.util.ArrayList;
import java.util.Arrays;
import java.util.HashMap;
import java.util.HashSet;
import java.util.List;
import java.util.Map;
import java.util.NoSuchElementException;
import java.util.Set;

/** The document once more, word for word and slowly, to be held against HandKnot. */
public final class SlowKnot {
    private static final class Token {
        char kind; // w word, n whole, ; semicolon, e end, x none
        String text = "";
        int at;
    }

    private static final class Hold {
        int person;
        boolean right;
        int other;
        boolean otherRight;
    }

    private static final class Cross {
        int over;
        int overPlace;
        int under;
        int underPlace;
        int sign;
    }

    private static final class Fault extends Exception {
        private static final long serialVersionUID = 1L;
        final int number;
        final int at;

        Fault(int number, int at) {
            this.number = number;
            this.at = at;
        }
    }

    private static final class Tangle {
        int tall;
        boolean once;
        final List<Integer> talls = new ArrayList<>();
        final List<Hold> holds = new ArrayList<>();
        final List<Cross> crosses = new ArrayList<>();
        final Map<String, String> names = new HashMap<>();
        final List<List<Integer>> ringPeople = new ArrayList<>();
        /** RINGS as they are gone round: -1 less a LINK where it begins, else a STANDING. */
        final List<List<Integer>> ringItems = new ArrayList<>();
        final Map<Integer, Integer> along = new HashMap<>();
        final List<Integer> standingRing = new ArrayList<>();
        final List<Integer> standingLink = new ArrayList<>();
        final List<Integer> first = new ArrayList<>();
        final List<Integer> signs = new ArrayList<>();
    }

    private static final class State {
        List<Integer> stands;
        List<Integer> signs;
        int parted = -2;
        int seed;

        State copy() {
            State s = new State();
            s.stands = new ArrayList<>(stands);
            s.signs = new ArrayList<>(signs);
            s.parted = parted;
            s.seed = seed;
            return s;
        }
    }

    private final List<Integer> tape = new ArrayList<>();
    private Tangle tangle;
    private State now;
    private final ArrayDeque<State> undo = new ArrayDeque<>();
    private final List<State> marks = new ArrayList<>();
    private int trouble;
    private int fault;
    private int place;

    private int no(int why) {
        trouble = why;
        return -1;
    }

    private int noSign(int why) {
        trouble = why;
        return -100;
    }

    private boolean notSo(int why) {
        trouble = why;
        return false;
    }

    private int yes(int answer) {
        trouble = 0;
        return answer;
    }

    public int feed(int a, int b, int c, int d, int e) {
        if (tape.size() + 20 > 900) return -1;
        for (int v : new int[] {a, b, c, d, e}) {
            for (int i = 3; i >= 0; i--) tape.add(v >> 8 * i & 0xff);
        }
        return tape.size();
    }

    // ---- reading

    private static List<Token> tokens(List<Integer> bytes) {
        List<Token> all = new ArrayList<>();
        StringBuilder s = new StringBuilder();
        for (int b : bytes) s.append((char) b);
        int i = 0;
        while (true) {
            while (i < s.length() && s.charAt(i) == ' ') i++;
            Token t = new Token();
            t.at = i;
            all.add(t);
            if (i == s.length()) {
                t.kind = 'e';
                return all;
            }
            int j = i;
            while (j < s.length() && String.valueOf(s.charAt(j)).matches("[a-z]")) j++;
            int k = i;
            while (k < s.length() && String.valueOf(s.charAt(k)).matches("[0-9]")) k++;
            if (j > i && j - i <= 8) {
                t.kind = 'w';
                t.text = s.substring(i, j);
                i = j;
            } else if (k > i && k - i <= 3) {
                t.kind = 'n';
                t.text = s.substring(i, k);
                i = k;
            } else if (s.charAt(i) == ';') {
                t.kind = ';';
                i++;
            } else {
                t.kind = 'x';
                return all;
            }
        }
    }

    private static final List<String> KEPT = Arrays.asList("tangle", "person", "hold", "cross");
    private static final Map<String, String[]> SHAPES = new HashMap<>();

    static {
        SHAPES.put("tangle", new String[] {"tall", "WHOLE 0 99"});
        SHAPES.put("person", new String[] {"NEW person", "tall", "WHOLE 1 99"});
        SHAPES.put("hold", new String[] {"NEW link", "OLD person", "HAND", "OLD person", "HAND"});
        SHAPES.put("cross", new String[] {"OLD link", "WHOLE 1 9", "over", "OLD link", "WHOLE 1 9", "SIGN"});
    }

    private static Tangle parse(List<Integer> bytes) throws Fault {
        List<Token> all = tokens(bytes);
        Tangle t = new Tangle();
        boolean begun = false;
        int i = 0;
        while (true) {
            Token head = all.get(i++);
            if (head.kind != 'w' || !SHAPES.containsKey(head.text)) throw new Fault(1, head.at);
            boolean isTangle = head.text.equals("tangle");
            if (isTangle && begun) throw new Fault(3, head.at);
            if (!isTangle && !begun) throw new Fault(6, head.at);
            int room = head.text.equals("person") ? 8 - t.talls.size() : head.text.equals("hold") ? 8 - t.holds.size()
                : head.text.equals("cross") ? 7 - t.crosses.size() : 1;
            if (room == 0) throw new Fault(5, head.at);
            List<Token> got = new ArrayList<>();
            for (String part : SHAPES.get(head.text)) {
                Token k = all.get(i++);
                got.add(k);
                fits(t, part, k);
                beyond(t, head.text, got);
            }
            if (isTangle) {
                begun = true;
                t.tall = Integer.parseInt(got.get(1).text);
                if (all.get(i).kind == 'w' && all.get(i).text.equals("once")) {
                    t.once = true;
                    i++;
                }
            } else {
                tell(t, head.text, got);
            }
            Token tail = all.get(i++);
            if (tail.kind == 'e') {
                if (t.talls.isEmpty() || 2 * t.holds.size() != 2 * t.talls.size()) throw new Fault(6, tail.at);
                return t;
            }
            if (tail.kind != ';') throw new Fault(1, tail.at);
        }
    }

    private static void fits(Tangle t, String part, Token k) throws Fault {
        String[] p = part.split(" ");
        if (p[0].equals("WHOLE")) {
            if (k.kind != 'n') throw new Fault(1, k.at);
            int v = Integer.parseInt(k.text);
            if (v < Integer.parseInt(p[1]) || v > Integer.parseInt(p[2])) throw new Fault(4, k.at);
            return;
        }
        if (k.kind != 'w') throw new Fault(1, k.at);
        if (p[0].equals("NEW") || p[0].equals("OLD")) {
            if (KEPT.contains(k.text)) throw new Fault(1, k.at);
            String told = t.names.get(k.text);
            if (p[0].equals("OLD") && (told == null || !told.startsWith(p[1]))) throw new Fault(2, k.at);
            if (p[0].equals("NEW") && told != null) throw new Fault(3, k.at);
        } else if (p[0].equals("HAND")) {
            if (!k.text.equals("left") && !k.text.equals("right")) throw new Fault(1, k.at);
        } else if (p[0].equals("SIGN")) {
            if (!k.text.equals("plus") && !k.text.equals("minus")) throw new Fault(1, k.at);
        } else if (!k.text.equals(part)) {
            throw new Fault(1, k.at);
        }
    }

    private static int index(Tangle t, Token k) {
        return Integer.parseInt(t.names.get(k.text).split(" ")[1]);
    }

    private static void beyond(Tangle t, String sort, List<Token> got) throws Fault {
        Token k = got.get(got.size() - 1);
        int n = got.size();
        if (sort.equals("hold") && (n == 3 || n == 5)) {
            int person = index(t, got.get(n - 2));
            boolean right = k.text.equals("right");
            for (Hold h : t.holds) {
                if (h.person == person && h.right == right || h.other == person && h.otherRight == right) throw new Fault(3, k.at);
            }
        }
        if (sort.equals("hold") && n == 4) {
            int a = index(t, got.get(1));
            int b = index(t, k);
            if (a == b) throw new Fault(3, k.at);
            for (Hold h : t.holds) {
                if (t.once && (h.person == a && h.other == b || h.person == b && h.other == a)) throw new Fault(3, k.at);
            }
        }
        if (sort.equals("cross") && (n == 2 || n == 5)) {
            int link = index(t, got.get(n - 2));
            int v = Integer.parseInt(k.text);
            boolean taken = n == 5 && index(t, got.get(0)) == link && Integer.parseInt(got.get(1).text) == v;
            for (Cross c : t.crosses) taken |= c.over == link && c.overPlace == v || c.under == link && c.underPlace == v;
            if (taken) throw new Fault(3, k.at);
        }
    }

    private static void tell(Tangle t, String sort, List<Token> got) {
        if (sort.equals("person")) {
            t.names.put(got.get(0).text, "person " + t.talls.size());
            t.talls.add(Integer.parseInt(got.get(2).text));
        } else if (sort.equals("hold")) {
            t.names.put(got.get(0).text, "link " + t.holds.size());
            Hold h = new Hold();
            h.person = index(t, got.get(1));
            h.right = got.get(2).text.equals("right");
            h.other = index(t, got.get(3));
            h.otherRight = got.get(4).text.equals("right");
            t.holds.add(h);
        } else {
            Cross c = new Cross();
            c.over = index(t, got.get(0));
            c.overPlace = Integer.parseInt(got.get(1).text);
            c.under = index(t, got.get(3));
            c.underPlace = Integer.parseInt(got.get(4).text);
            c.sign = got.get(5).text.equals("plus") ? 1 : -1;
            t.crosses.add(c);
        }
    }

    private static void goRound(Tangle t) {
        Set<Integer> seen = new HashSet<>();
        for (int p = 0; p < t.talls.size(); p++) {
            if (seen.contains(p)) continue;
            List<Integer> people = new ArrayList<>();
            List<Integer> items = new ArrayList<>();
            int at = p;
            boolean right = false;
            do {
                seen.add(at);
                people.add(at);
                for (int l = 0; l < t.holds.size(); l++) {
                    Hold h = t.holds.get(l);
                    boolean forth = h.person == at && h.right == right;
                    boolean against = h.other == at && h.otherRight == right;
                    if (forth || against) {
                        goAlong(t, l, forth, items);
                        at = forth ? h.other : h.person;
                        right = forth ? !h.otherRight : !h.right;
                        break;
                    }
                }
            } while (at != p);
            t.ringPeople.add(people);
            t.ringItems.add(items);
        }
        for (Cross c : t.crosses) t.signs.add(t.along.get(c.over).equals(t.along.get(c.under)) ? c.sign : -c.sign);
    }

    private static void goAlong(Tangle t, int l, boolean forth, List<Integer> items) {
        t.along.put(l, forth ? 1 : 0);
        items.add(-1 - l);
        for (int i = 1; i <= 9; i++) {
            int place = forth ? i : 10 - i;
            for (int x = 0; x < t.crosses.size(); x++) {
                Cross c = t.crosses.get(x);
                for (int over = 0; over < 2; over++) {
                    boolean here = over == 1 ? c.over == l && c.overPlace == place : c.under == l && c.underPlace == place;
                    if (here) {
                        items.add(t.first.size());
                        t.first.add(2 * x + over);
                        t.standingRing.add(t.ringPeople.size());
                        t.standingLink.add(l);
                    }
                }
            }
        }
    }

    public int tangle(int n) {
        if (n < 0 || n > tape.size()) return no(2);
        List<Integer> text = new ArrayList<>(tape.subList(0, n));
        tape.clear();
        try {
            Tangle t = parse(text);
            goRound(t);
            tangle = t;
        } catch (Fault f) {
            fault = f.number;
            place = f.at;
            return no(4);
        }
        fault = 0;
        now = new State();
        now.stands = new ArrayList<>(tangle.first);
        now.signs = new ArrayList<>(tangle.signs);
        undo.clear();
        marks.clear();
        return yes(tangle.ringPeople.size());
    }

    public int fault() {
        return fault;
    }

    public int where() {
        return trouble == 4 ? place : -1;
    }

    // ---- who holds whom

    private boolean person(int p) {
        return tangle != null && p >= 0 && p < tangle.talls.size();
    }

    private boolean isRing(int r) {
        return tangle != null && r >= 0 && r < tangle.ringPeople.size();
    }

    public int ring(int p) {
        if (!person(p)) return no(1);
        for (int r = 0; r < tangle.ringPeople.size(); r++) if (tangle.ringPeople.get(r).contains(p)) return yes(r);
        throw new IllegalStateException();
    }

    public int people(int r) {
        return isRing(r) ? yes(tangle.ringPeople.get(r).size()) : no(1);
    }

    public int member(int r, int i) {
        if (!isRing(r) || i < 0 || i >= tangle.ringPeople.get(r).size()) return no(1);
        return yes(tangle.ringPeople.get(r).get(i));
    }

    public int holds(int p, boolean right) {
        if (!person(p)) return no(1);
        for (Hold h : tangle.holds) {
            if (h.person == p && h.right == right) return yes(2 * h.other + (h.otherRight ? 1 : 0));
            if (h.other == p && h.otherRight == right) return yes(2 * h.person + (h.right ? 1 : 0));
        }
        throw new IllegalStateException();
    }

    public int along(int l) {
        return tangle != null && l >= 0 && l < tangle.holds.size() ? yes(tangle.along.get(l)) : no(1);
    }

    // ---- what stands where

    public int stands(int s) {
        return tangle != null && s >= 0 && s < now.stands.size() ? yes(now.stands.get(s)) : no(1);
    }

    public int place(int s, int what) {
        if (tangle == null || s < 0 || s >= now.stands.size() || what != 0 && what != 1) return no(1);
        return yes(what == 0 ? tangle.standingRing.get(s) : tangle.standingLink.get(s));
    }

    private boolean isCrossing(int x) {
        return tangle != null && x >= 0 && x < tangle.crosses.size();
    }

    public int sign(int x) {
        if (!isCrossing(x)) return noSign(1);
        return yes(now.stands.contains(2 * x) ? now.signs.get(x) : 0);
    }

    private static int left(State s) {
        int n = 0;
        for (int v : s.stands) if (v >= 0 && v % 2 == 1) n++;
        return n;
    }

    public int left() {
        return tangle == null ? no(1) : yes(left(now));
    }

    public int loose() {
        return tangle == null ? no(1) : yes(left(now) == 0 ? 1 : 0);
    }

    // ---- moves

    /** The pass that is come to next from one, forth; -1 if an open end, or none, comes first. */
    private int forth(State s, int pass) {
        int at = s.stands.indexOf(pass);
        List<Integer> items = tangle.ringItems.get(tangle.standingRing.get(at));
        int i = items.indexOf(at);
        for (int k = 1; k < items.size(); k++) {
            int item = items.get((i + k) % items.size());
            if (item < 0 && -1 - item == s.parted) return -1;
            if (item >= 0 && s.stands.get(item) >= 0) return s.stands.get(item);
        }
        return -1;
    }

    private boolean beside(State s, int pass, int other) {
        if (!s.stands.contains(pass) || !s.stands.contains(other)) return false;
        return forth(s, pass) == other || forth(s, other) == pass;
    }

    /** The CROSSINGS of a MOVE; null if its number is none. */
    private List<Integer> named(int move) {
        int n = tangle.crosses.size();
        for (int x = 0; x < n; x++) {
            if (move == x) return Arrays.asList(x);
            for (int y = 0; y < n; y++) {
                if (x < y && move == 100 + 10 * x + y) return Arrays.asList(x, y);
                for (int z = 0; z < n; z++) {
                    if (x != y && x != z && y != z && move == 1000 + 100 * x + 10 * y + z) return Arrays.asList(x, y, z);
                }
            }
        }
        return null;
    }

    private boolean can(State s, List<Integer> m) {
        int x = m.get(0);
        if (m.size() == 1) return beside(s, 2 * x, 2 * x + 1);
        int y = m.get(1);
        if (m.size() == 2) {
            return beside(s, 2 * x + 1, 2 * y + 1) && beside(s, 2 * x, 2 * y) && !s.signs.get(x).equals(s.signs.get(y));
        }
        int z = m.get(2);
        return beside(s, 2 * x + 1, 2 * y + 1) && beside(s, 2 * x, 2 * z + 1) && beside(s, 2 * y, 2 * z);
    }

    private int goer(State s, List<Integer> m) {
        int x = m.get(m.size() - 2);
        int y = m.get(m.size() - 1);
        int at = Math.min(s.stands.indexOf(2 * x), s.stands.indexOf(2 * y));
        Hold h = tangle.holds.get(tangle.standingLink.get(at));
        int a = tangle.talls.get(h.person);
        int b = tangle.talls.get(h.other);
        return a < b ? h.person : b < a ? h.other : Math.min(h.person, h.other);
    }

    private boolean mayBe(State s, List<Integer> m) {
        return can(s, m) && (m.size() == 1 || tangle.talls.get(goer(s, m)) <= tangle.tall);
    }

    private List<Integer> all(State s) {
        List<Integer> found = new ArrayList<>();
        int n = tangle.crosses.size();
        for (int x = 0; x < n; x++) if (mayBe(s, Arrays.asList(x))) found.add(x);
        for (int x = 0; x < n; x++) {
            for (int y = x + 1; y < n; y++) if (mayBe(s, Arrays.asList(x, y))) found.add(100 + 10 * x + y);
        }
        for (int x = 0; x < n; x++) {
            for (int y = 0; y < n; y++) {
                if (x == y || !beside(s, 2 * x + 1, 2 * y + 1)) continue;
                for (int z = 0; z < n; z++) {
                    if (x != z && y != z && mayBe(s, Arrays.asList(x, y, z))) found.add(1000 + 100 * x + 10 * y + z);
                }
            }
        }
        return found;
    }

    private static void vanish(State s, int x) {
        s.stands.replaceAll(v -> v >= 0 && v / 2 == x ? -2 : v);
    }

    private static void exchange(State s, int pass, int other) {
        int i = s.stands.indexOf(pass);
        int j = s.stands.indexOf(other);
        s.stands.set(i, other);
        s.stands.set(j, pass);
    }

    private State after(State s, int move) {
        State t = s.copy();
        List<Integer> m = named(move);
        if (m.size() < 3) {
            for (int x : m) vanish(t, x);
        } else {
            exchange(t, 2 * m.get(0) + 1, 2 * m.get(1) + 1);
            exchange(t, 2 * m.get(0), 2 * m.get(2) + 1);
            exchange(t, 2 * m.get(1), 2 * m.get(2));
        }
        return t;
    }

    public int may(int move) {
        if (tangle == null || named(move) == null) return no(1);
        return yes(mayBe(now, named(move)) ? 1 : 0);
    }

    public int goer(int move) {
        if (tangle == null || named(move) == null) return no(1);
        if (!can(now, named(move))) return no(5);
        return yes(move < 100 ? -2 : goer(now, named(move)));
    }

    public int moves() {
        return tangle == null ? no(1) : yes(all(now).size());
    }

    public int moveAt(int i) {
        return tangle == null || i < 0 || i >= all(now).size() ? no(1) : yes(all(now).get(i));
    }

    /** What is come to by k MOVES or fewer, for each k; null where that is more than 4,000. */
    private List<Map<List<Integer>, State>> levels(State from, int d) {
        List<Map<List<Integer>, State>> found = new ArrayList<>();
        Map<List<Integer>, State> known = new HashMap<>();
        List<State> edge = new ArrayList<>();
        known.put(from.stands, from);
        edge.add(from);
        found.add(known);
        for (int k = 1; k <= d; k++) {
            Map<List<Integer>, State> more = new HashMap<>(known);
            List<State> fresh = new ArrayList<>();
            for (State s : edge) {
                for (int move : all(s)) {
                    State t = after(s, move);
                    if (more.putIfAbsent(t.stands, t) == null) fresh.add(t);
                    if (more.size() > 4000) {
                        found.add(null);
                        return found;
                    }
                }
            }
            found.add(more);
            known = more;
            edge = fresh;
        }
        return found;
    }

    private int fewest(State s, int d) {
        List<Map<List<Integer>, State>> all = levels(s, d);
        for (int k = 0; k < all.size(); k++) {
            if (all.get(k) == null) return -3;
            for (State t : all.get(k).values()) if (left(t) == 0) return k;
        }
        return -2;
    }

    public int fewest(int d) {
        if (tangle == null) return no(1);
        if (d < 0 || d > 8) return no(2);
        int k = fewest(now, d);
        return k == -3 ? no(3) : yes(k);
    }

    public int next(int d) {
        if (tangle == null) return no(1);
        if (d < 1 || d > 8) return no(2);
        int k = fewest(now, d);
        if (k == -3) return no(3);
        if (k < 0) return yes(-2);
        for (int move : all(now)) if (fewest(after(now, move), d - 1) == k - 1) return yes(move);
        return yes(-2);
    }

    private int callers() {
        int best = -2;
        int least = 99;
        for (int move : all(now)) {
            State t = after(now, move);
            int worth = left(t);
            for (int again : all(t)) worth = Math.min(worth, left(after(t, again)));
            if (worth < least) {
                least = worth;
                best = move;
            }
        }
        return best;
    }

    public int caller() {
        return tangle == null ? no(1) : yes(callers());
    }

    // ---- counts that no move changes

    private int signs(State s, int r, int q) {
        int sum = 0;
        for (int x = 0; x < tangle.crosses.size(); x++) {
            if (!s.stands.contains(2 * x)) continue;
            int under = tangle.standingRing.get(s.stands.indexOf(2 * x));
            int over = tangle.standingRing.get(s.stands.indexOf(2 * x + 1));
            if (under == r && over == q || under == q && over == r) sum += s.signs.get(x);
        }
        return sum;
    }

    public int hang(int r, int q) {
        return isRing(r) && isRing(q) && r != q ? yes(signs(now, r, q)) : noSign(1);
    }

    public int twist(int r) {
        return isRing(r) ? yes(signs(now, r, r)) : noSign(1);
    }

    /** For each pass its ARC, and at -1 - (under pass) the ARC that begins there; at 1,000 how many there are. */
    private Map<Integer, Integer> arcsOf(State s) {
        Map<Integer, Integer> arc = new HashMap<>();
        int count = 0;
        for (List<Integer> items : tangle.ringItems) {
            int cut = items.indexOf(-1 - s.parted);
            boolean open = s.parted >= 0 && cut >= 0;
            List<Integer> passes = new ArrayList<>();
            int unders = 0;
            int firstUnder = -1;
            for (int k = 0; k < items.size(); k++) {
                int item = items.get(((open ? cut : 0) + k) % items.size());
                if (item >= 0 && s.stands.get(item) >= 0) {
                    passes.add(s.stands.get(item));
                    if (s.stands.get(item) % 2 == 0) {
                        if (unders == 0) firstUnder = passes.size() - 1;
                        unders++;
                    }
                }
            }
            if (!open && unders > 0) {
                // begin just behind the first under pass, and end with it
                List<Integer> turned = new ArrayList<>(passes.subList(firstUnder + 1, passes.size()));
                turned.addAll(passes.subList(0, firstUnder + 1));
                passes = turned;
            }
            int begin = count;
            int current = count++;
            for (int i = 0; i < passes.size(); i++) {
                int pass = passes.get(i);
                arc.put(pass, current);
                if (pass % 2 == 0) {
                    current = !open && i == passes.size() - 1 ? begin : count++;
                    arc.put(-1 - pass, current);
                }
            }
        }
        arc.put(1000, count);
        return arc;
    }

    public int arcs() {
        return tangle == null ? no(1) : yes(arcsOf(now).get(1000));
    }

    private int colouring(State s, int p) {
        Map<Integer, Integer> arc = arcsOf(s);
        List<int[]> rules = new ArrayList<>();
        for (int x = 0; x < tangle.crosses.size(); x++) {
            if (s.stands.contains(2 * x)) rules.add(new int[] {arc.get(2 * x + 1), arc.get(2 * x), arc.get(-1 - 2 * x)});
        }
        long ways = paint(new int[arc.get(1000)], 0, rules, p);
        int n = 0;
        while (ways > 1) {
            if (ways % p != 0) throw new IllegalStateException();
            ways /= p;
            n++;
        }
        return n;
    }

    private static long paint(int[] colour, int from, List<int[]> rules, int p) {
        if (from == colour.length) return 1;
        long ways = 0;
        for (int c = 0; c < p; c++) {
            colour[from] = c;
            boolean good = true;
            for (int[] r : rules) {
                int last = Math.max(r[0], Math.max(r[1], r[2]));
                if (last == from && (2 * colour[r[0]] - colour[r[1]] - colour[r[2]]) % p != 0) good = false;
            }
            if (good) ways += paint(colour, from + 1, rules, p);
        }
        return ways;
    }

    public int colours(int p) {
        if (tangle == null) return no(1);
        if (p != 3 && p != 5 && p != 7) return no(2);
        return yes(colouring(now, p));
    }

    public int cannot() {
        if (tangle == null) return no(1);
        int n = tangle.ringPeople.size();
        boolean tight = false;
        for (int p : new int[] {3, 5, 7}) tight |= colouring(now, p) != n;
        for (int r = 0; r < n; r++) for (int q = 0; q < n; q++) tight |= r != q && signs(now, r, q) != 0;
        return yes(tight ? 1 : 0);
    }

    private State letGo(State s, int link) {
        State t = s.copy();
        for (int i = 0; i < s.stands.size(); i++) {
            if (s.stands.get(i) >= 0 && tangle.standingLink.get(i) == link) vanish(t, s.stands.get(i) / 2);
        }
        t.parted = link;
        return t;
    }

    private static State lifted(State s, int x) {
        State t = s.copy();
        exchange(t, 2 * x, 2 * x + 1);
        t.signs.set(x, -t.signs.get(x));
        return t;
    }

    private int best(List<Integer> which, List<State> behind, int d) {
        int best = -2;
        int least = 99;
        boolean refused = false;
        for (int i = 0; i < which.size(); i++) {
            int k = fewest(behind.get(i), d);
            refused |= k == -3;
            if (k >= 0 && k < least) {
                least = k;
                best = which.get(i);
            }
        }
        return refused ? no(3) : yes(best);
    }

    public int part(int d) {
        if (tangle == null) return no(1);
        if (d < 0 || d > 8) return no(2);
        if (now.parted >= 0) return no(5);
        List<Integer> which = new ArrayList<>();
        List<State> behind = new ArrayList<>();
        for (int l = 0; l < tangle.holds.size(); l++) {
            which.add(l);
            behind.add(letGo(now, l));
        }
        return best(which, behind, d);
    }

    public int lift(int d) {
        if (tangle == null) return no(1);
        if (d < 0 || d > 8) return no(2);
        List<Integer> which = new ArrayList<>();
        List<State> behind = new ArrayList<>();
        for (int x = 0; x < tangle.crosses.size(); x++) {
            if (!now.stands.contains(2 * x)) continue;
            which.add(x);
            behind.add(lifted(now, x));
        }
        return best(which, behind, d);
    }

    public int reached(int d) {
        if (tangle == null) return no(1);
        if (d < 0 || d > 8) return no(2);
        List<Map<List<Integer>, State>> all = levels(now, d);
        Map<List<Integer>, State> last = all.get(all.size() - 1);
        return last == null ? no(3) : yes(last.size());
    }

    public int few(int d) {
        if (tangle == null) return no(1);
        if (d < 0 || d > 8) return no(2);
        List<Map<List<Integer>, State>> all = levels(now, d);
        Map<List<Integer>, State> last = all.get(all.size() - 1);
        if (last == null) return no(3);
        int least = 99;
        for (State s : last.values()) least = Math.min(least, left(s));
        return yes(least);
    }

    // ---- those within

    private Set<Integer> seen(State s, int p) {
        Set<Integer> seen = new HashSet<>();
        for (int i = 0; i < s.stands.size(); i++) {
            Hold h = tangle.holds.get(tangle.standingLink.get(i));
            if (s.stands.get(i) >= 0 && (h.person == p || h.other == p)) seen.add(s.stands.get(i) / 2);
        }
        return seen;
    }

    private int ownOf(State s, int p) {
        int best = -2;
        int least = 99;
        for (int move : all(s)) {
            if (!seen(s, p).containsAll(named(move))) continue;
            int n = left(after(s, move));
            if (n < least) {
                least = n;
                best = move;
            }
        }
        return best;
    }

    public int sees(int p) {
        if (!person(p)) return no(1);
        int bits = 0;
        for (int x : seen(now, p)) bits += 1 << x;
        return yes(bits);
    }

    public int own(int p) {
        return person(p) ? yes(ownOf(now, p)) : no(1);
    }

    public int rounds(int n) {
        if (tangle == null) return no(1);
        if (n < 0 || n > 9) return no(2);
        State s = now;
        for (int i = 0; i < n; i++) {
            for (int p = 0; p < tangle.talls.size(); p++) {
                int move = ownOf(s, p);
                if (move != -2 && left(after(s, move)) < left(s)) s = after(s, move);
            }
        }
        return yes(left(s));
    }

    private static int drawn(int seed) {
        return (75 * seed + 74) % 65537;
    }

    public int tries(int seed, int n, int d) {
        if (tangle == null) return no(1);
        if (seed < 0 || seed > 65536 || n < 1 || n > 20 || d < 0 || d > 20) return no(2);
        int came = 0;
        int v = seed;
        for (int i = 0; i < n; i++) {
            State s = now;
            for (int j = 0; j < d; j++) {
                List<Integer> all = all(s);
                if (left(s) == 0 || all.isEmpty()) break;
                v = drawn(v);
                s = after(s, all.get(v % all.size()));
            }
            if (left(s) == 0) came++;
        }
        return yes(came);
    }

    // ---- by lot

    /** Associated Stirling numbers of the first kind: permutations whose cycles all have so many, at least. */
    private static long cycles(int n, int r, int least) {
        if (n < 0 || r < 0) return 0;
        if (n == 0) return r == 0 ? 1 : 0;
        if (least == 2) return (n - 1) * (cycles(n - 1, r, 2) + cycles(n - 2, r - 1, 2));
        return (n - 1) * cycles(n - 1, r, 3) + (long) (n - 1) * (n - 2) * cycles(n - 3, r - 1, 3);
    }

    private static long waysOf(int n, int r, boolean once) {
        return r > n ? 0 : cycles(n, r, once ? 3 : 2) << n - r;
    }

    public long ways(int n, int r, boolean once) {
        if (n < 2 || n > 13 || r < 0 || r > 13) return no(2);
        trouble = 0;
        return waysOf(n, r, once);
    }

    private static long lowest(long a, long b, boolean lower) {
        java.math.BigInteger g = java.math.BigInteger.valueOf(a).gcd(java.math.BigInteger.valueOf(b));
        return (lower ? b : a) / g.longValue();
    }

    public long odds(int n, int r, boolean once, boolean lower) {
        if (n < 2 || n > 13 || r < 0 || r > 13) return no(2);
        long all = 0;
        for (int q = 0; q <= 13; q++) all += waysOf(n, q, once);
        if (all == 0) return no(6);
        trouble = 0;
        return lowest(waysOf(n, r, once), all, lower);
    }

    public long mean(int n, boolean once, boolean lower) {
        if (n < 2 || n > 13) return no(2);
        long all = 0;
        long rings = 0;
        for (int q = 0; q <= 13; q++) {
            all += waysOf(n, q, once);
            rings += q * waysOf(n, q, once);
        }
        if (all == 0) return no(6);
        trouble = 0;
        return lowest(rings, all, lower);
    }

    // ---- acts

    private void become(State s) {
        undo.addLast(now.copy());
        if (undo.size() > 16) undo.removeFirst();
        now = s.copy();
    }

    public int move(int move) {
        if (tangle == null || named(move) == null) return no(1);
        if (!mayBe(now, named(move))) return no(5);
        become(after(now, move));
        return yes(left(now));
    }

    public int parts(int link) {
        if (tangle == null || link < 0 || link >= tangle.holds.size()) return no(1);
        if (now.parted >= 0) return no(5);
        int before = left(now);
        become(letGo(now, link));
        return yes(before - left(now));
    }

    public int lifts(int x) {
        if (!isCrossing(x)) return noSign(1);
        if (!now.stands.contains(2 * x)) return noSign(5);
        become(lifted(now, x));
        return yes(now.signs.get(x));
    }

    public int lot() {
        if (tangle == null) return no(1);
        List<Integer> all = all(now);
        if (all.isEmpty()) return no(6);
        int v = drawn(now.seed);
        int move = all.get(v % all.size());
        become(after(now, move));
        now.seed = v;
        return yes(move);
    }

    public int call() {
        if (tangle == null) return no(1);
        int move = callers();
        if (move == -2) return no(6);
        become(after(now, move));
        return yes(move);
    }

    public boolean seed(int v) {
        if (tangle == null) return notSo(1);
        if (v < 0 || v > 65536) return notSo(2);
        now.seed = v;
        trouble = 0;
        return true;
    }

    public boolean undo() {
        if (undo.isEmpty()) return notSo(6);
        now = undo.removeLast();
        trouble = 0;
        return true;
    }

    public int mark() {
        if (tangle == null) return no(1);
        if (marks.size() == 3) return no(3);
        marks.add(now.copy());
        return yes(marks.size() - 1);
    }

    public boolean back(int m) {
        if (m < 0 || m >= marks.size()) return notSo(1);
        now = marks.get(m).copy();
        undo.clear();
        trouble = 0;
        return true;
    }

    // ---- what is told

    public int led(int i) {
        List<Integer> found = new ArrayList<>();
        for (int x = 0; tangle != null && x < tangle.crosses.size(); x++) if (now.stands.contains(2 * x)) found.add(x);
        if (i < 0 || i >= found.size()) throw new NoSuchElementException();
        return found.get(i);
    }

    public int size(int what) {
        if (what == 11) return tape.size();
        if (what < 0 || what > 11) return -1;
        if (tangle == null) return 0;
        return new int[] {tangle.talls.size(), tangle.holds.size(), tangle.ringPeople.size(), tangle.crosses.size(),
            now.stands.size(), tangle.tall, tangle.once ? 1 : 0, now.parted, now.seed, undo.size(), marks.size()}[what];
    }

    public int trouble() {
        return trouble;
    }
}
