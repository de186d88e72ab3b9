/** README.md's example: two people, undone by one move. */
public final class Example {
    public static void main(String[] args) {
        String text = "tangle tall 50;person a tall 40;person b tall 60;"
            + "hold l a left b left;hold m a right b right;"
            + "cross l 1 over m 5 plus;cross l 2 over m 4 minus";
        HandKnot knot = new HandKnot();
        feed(knot, text);
        System.out.println("rings: " + knot.tangle(text.length()));
        System.out.println("loose in: " + knot.fewest(8));
        System.out.println("first move: " + knot.next(8));
        System.out.println("who slips under: " + knot.goer(101));
        System.out.println("crossings left: " + knot.move(101));
        System.out.println("undone: " + knot.undo() + ", crossings left: " + knot.left());
        System.out.println("refused: " + knot.move(0) + ", trouble: " + knot.trouble());
    }

    /** Twenty bytes at a time, with blanks behind the last one. */
    private static void feed(HandKnot knot, String text) {
        for (int at = 0; at < text.length(); at += 20) {
            knot.feed(four(text, at), four(text, at + 4), four(text, at + 8), four(text, at + 12), four(text, at + 16));
        }
    }

    private static int four(String text, int from) {
        int bytes = 0;
        for (int i = from; i < from + 4; i++) bytes = bytes << 8 | (i < text.length() ? text.charAt(i) : ' ');
        return bytes;
    }
}
