/** Feeds texts to a SewnYear. */
final class Tape {
    private Tape() {
    }

    /** Puts a text (its signs are bytes) on the tape, alone. */
    static void put(SewnYear x, String text) {
        x.end(0);
        for (int at = 0; at < text.length(); at += 20) {
            int[] words = new int[5];
            for (int i = 0; i < 20; i++) {
                int sign = at + i < text.length() ? text.charAt(at + i) : ' ';
                words[i / 4] = words[i / 4] << 8 | sign & 255;
            }
            x.feed(words[0], words[1], words[2], words[3], words[4]);
        }
        x.end(text.length());
    }

    static int tell(SewnYear x, int sort, int at, String text) {
        put(x, text);
        return x.text(sort, at);
    }

    static int tell(SewnYear x, int sort, String text) {
        return tell(x, sort, SewnYear.NONE, text);
    }

    static String times(String text, int n) {
        StringBuilder all = new StringBuilder();
        for (int i = 0; i < n; i++) {
            all.append(text);
        }
        return all.toString();
    }
}
