/** Feeds texts. */
final class Words {
    private Words() {
    }

    /** Puts a text of up to 400 bytes on an empty TAPE. */
    static void feed(KindPostman x, String text) {
        for (int i = 0; i < text.length(); i += 20) {
            x.feed(four(text, i), four(text, i + 4), four(text, i + 8), four(text, i + 12), four(text, i + 16));
        }
        x.end(text.length());
    }

    static int tell(KindPostman x, int k, String text) {
        feed(x, text);
        return x.text(k);
    }

    static int four(String text, int from) {
        int v = 0;
        for (int i = from; i < from + 4; i++) {
            v = v << 8 | (i < text.length() ? text.charAt(i) & 255 : 32);
        }
        return v;
    }
}
