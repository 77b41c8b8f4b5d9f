/** Short ways to fill objects for tests. */
public final class Scene {
    private Scene() {
    }

    /** A row of bytes with a text. */
    public static void text(DiveChairs x, int shelf, String text) {
        Check.is("row for " + text, 0, x.row(shelf, 0, text.length()));
        for (int i = 0; i < text.length(); i++) {
            Check.is("put for " + text, 0, x.put(shelf, i, text.charAt(i)));
        }
    }

    /** Reads a rule by way of shelf 7. */
    public static int rule(DiveChairs x, String text) {
        text(x, 7, text);
        return x.rule(7);
    }

    /** Tells the marks of a dive by way of shelf 6; -128 is missing. */
    public static int tell(DiveChairs x, int dive, int... marks) {
        Check.is("row for marks", 0, x.row(6, 0, marks.length));
        for (int i = 0; i < marks.length; i++) {
            Check.is("put for marks", 0, x.put(6, i, marks[i]));
        }
        return x.marks(dive, 6);
    }
}
