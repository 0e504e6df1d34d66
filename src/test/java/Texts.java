import java.nio.charset.StandardCharsets;

/** Brings texts onto the tape of an object. */
final class Texts {
    private Texts() {
    }

    /** Feeds a text and cuts the tape behind it. */
    static void feed(LikeYears x, String text) {
        int before = x.about(4);
        byte[] b = text.getBytes(StandardCharsets.ISO_8859_1);
        for (int at = 0; at < b.length; at += 20) {
            x.feed(four(b, at), four(b, at + 4), four(b, at + 8), four(b, at + 12), four(b, at + 16));
        }
        x.end(before + b.length);
    }

    static int four(byte[] b, int at) {
        int n = 0;
        for (int i = at; i < at + 4; i++) {
            n = n << 8 | (i < b.length ? b[i] & 255 : 0);
        }
        return n;
    }

    static LikeYears withBook(String text) {
        LikeYears x = new LikeYears();
        feed(x, text);
        x.book();
        return x;
    }
}
