/** Texts for tapes. */
final class Typing {
    private Typing() {
    }

    /** The next at most eight signs of a text from a place on, as type wants them. */
    static long eight(String text, int from) {
        long signs = 0;
        for (int i = from; i < Math.min(from + 8, text.length()); i++) {
            signs = signs << 8 | text.charAt(i);
        }
        return signs;
    }

    static void type(RoundTours x, String text) {
        for (int i = 0; i < text.length(); i += 8) {
            x.type(eight(text, i), Math.min(8, text.length() - i));
        }
    }

    static int read(RoundTours x, String text) {
        type(x, text);
        return x.read();
    }
}
