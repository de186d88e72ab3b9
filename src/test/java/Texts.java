import java.util.ArrayList;
import java.util.Collections;
import java.util.List;
import java.util.Random;

/** Texts of TANGLES for tests: made by chance (of a told seed), spoiled, and fed. */
final class Texts {
    private static final String[] NAMES = {"a", "b", "c", "tall", "once", "left", "right", "over", "plus", "minus",
        "ab", "ba", "zzzzzzzz", "abcdefgh", "q", "link", "x", "y", "z", "w", "who"};

    private final Random random;

    Texts(Random random) {
        this.random = random;
    }

    /** A TANGLE without FAULTS. */
    String good() {
        int people = 2 + random.nextInt(random.nextInt(3) == 0 ? 7 : 3);
        boolean once = people > 2 && random.nextInt(4) == 0;
        List<String> names = new ArrayList<>(List.of(NAMES));
        Collections.shuffle(names, random);
        List<int[]> holds = holds(people, once);
        List<String> lines = new ArrayList<>();
        int tall = random.nextInt(100);
        lines.add("tangle tall " + (random.nextBoolean() ? 99 : tall) + (once ? " once" : ""));
        for (int p = 0; p < people; p++) {
            lines.add("person " + names.get(p) + " tall " + (random.nextInt(3) == 0 ? 50 : 1 + random.nextInt(99)));
        }
        String[] hands = {"left", "right"};
        for (int l = 0; l < people; l++) {
            int[] h = holds.get(l);
            lines.add("hold " + names.get(people + l) + " " + names.get(h[0] / 2) + " " + hands[h[0] % 2] + " "
                + names.get(h[1] / 2) + " " + hands[h[1] % 2]);
        }
        crosses(lines, names.subList(people, 2 * people));
        return join(lines);
    }

    private List<int[]> holds(int people, boolean once) {
        while (true) {
            List<Integer> hands = new ArrayList<>();
            for (int i = 0; i < 2 * people; i++) hands.add(i);
            Collections.shuffle(hands, random);
            List<int[]> holds = new ArrayList<>();
            List<Integer> pairs = new ArrayList<>();
            boolean good = true;
            for (int i = 0; i < 2 * people; i += 2) {
                int a = hands.get(i);
                int b = hands.get(i + 1);
                int pair = 10 * Math.min(a / 2, b / 2) + Math.max(a / 2, b / 2);
                good &= a / 2 != b / 2 && !(once && pairs.contains(pair));
                pairs.add(pair);
                holds.add(new int[] {a, b});
            }
            if (good) return holds;
        }
    }

    private void crosses(List<String> lines, List<String> links) {
        List<String> places = new ArrayList<>();
        int few = 1 + random.nextInt(links.size());
        for (int l = 0; l < few; l++) for (int i = 1; i <= 9; i++) places.add(links.get(l) + " " + i);
        Collections.shuffle(places, random);
        int count = Math.min(random.nextInt(8), places.size() / 2);
        if (random.nextInt(3) == 0) tightly(places, count);
        for (int x = 0; x < count; x++) {
            lines.add("cross " + places.get(2 * x) + " over " + places.get(2 * x + 1) + (random.nextBoolean() ? " plus" : " minus"));
        }
    }

    /** So that neighbours belong together more often than by chance, and MOVES can be. */
    private void tightly(List<String> places, int count) {
        List<String> first = new ArrayList<>(places.subList(0, 2 * count));
        Collections.sort(first);
        for (int i = 0; i < count; i++) {
            int j = random.nextInt(2 * count);
            int k = random.nextInt(2 * count);
            Collections.swap(first, j, k);
        }
        for (int i = 0; i < 2 * count; i++) places.set(i, first.get(i));
    }

    private String join(List<String> lines) {
        boolean airy = random.nextInt(5) == 0;
        StringBuilder s = new StringBuilder();
        for (int i = 0; i < lines.size(); i++) {
            if (i > 0) s.append(airy ? "  ; " : ";");
            s.append(airy ? lines.get(i).replace(" ", "  ") : lines.get(i));
        }
        return s.toString();
    }

    /** A text with something changed: mostly it has a FAULT then. */
    String spoiled(String text) {
        String[] tokens = text.replace(";", " ; ").split(" +");
        int i = random.nextInt(tokens.length);
        int j = random.nextInt(tokens.length);
        switch (random.nextInt(9)) {
            case 0: tokens[i] = tokens[j]; break;
            case 1: tokens[i] = ""; break;
            case 2: tokens[i] = tokens[i] + " " + tokens[j]; break;
            case 3: return text.substring(0, random.nextInt(text.length() + 1));
            case 4: tokens[i] = new String[] {"0", "10", "100", "999", "1000", "00", "001"}[random.nextInt(7)]; break;
            case 5: tokens[i] = new String[] {"tangle", "person", "hold", "cross", "abcdefghi", "A", "+", "up"}[random.nextInt(8)]; break;
            case 6: return text.substring(0, i) + (char) random.nextInt(256) + text.substring(i);
            case 7: return swappedLines(text);
            default: return text + ";" + oneMore(text);
        }
        return String.join(" ", tokens);
    }

    private String swappedLines(String text) {
        String[] lines = text.split(";");
        int i = random.nextInt(lines.length);
        int j = random.nextInt(lines.length);
        String line = lines[i];
        lines[i] = lines[j];
        lines[j] = line;
        return String.join(";", lines);
    }

    private String oneMore(String text) {
        String[] lines = text.split(";");
        return lines[random.nextInt(lines.length)];
    }

    /** The bytes of a text, with something behind them, as many as calls of feed() take. */
    static int[] fed(String text, char behind) {
        StringBuilder s = new StringBuilder(text);
        while (s.length() % 20 != 0) s.append(behind);
        int[] all = new int[s.length() / 4];
        for (int i = 0; i < s.length(); i++) all[i / 4] |= (s.charAt(i) & 255) << 24 - 8 * (i % 4);
        return all;
    }
}
