import java.nio.charset.StandardCharsets;

/** Puts texts on an object's TAPE. */
final class Texts {
    private Texts() { }

    /** Feeds a text and cuts the TAPE to what it had and the text; answers its size. */
    static int feed(QuarrelBridge x, String text) {
        return feed(x, text.getBytes(StandardCharsets.ISO_8859_1));
    }

    static int feed(QuarrelBridge x, byte[] text) {
        int had = x.count(7);
        int[] five = new int[5];
        for (int from = 0; from < text.length; from += 20) {
            for (int i = 0; i < 5; i++) {
                five[i] = 0;
                for (int k = 0; k < 4; k++) {
                    int at = from + 4 * i + k;
                    five[i] = five[i] << 8 | (at < text.length ? text[at] & 255 : 32);
                }
            }
            x.feed(five[0], five[1], five[2], five[3], five[4]);
        }
        return x.end(had + text.length);
    }

    /** A new object with a BRIDGE. */
    static QuarrelBridge told(String text) {
        QuarrelBridge x = new QuarrelBridge();
        feed(x, text);
        int lines = x.bridge();
        if (lines <= 0) {
            throw new IllegalStateException("no bridge: fault " + x.fault(0) + " at " + x.fault(1));
        }
        return x;
    }
}
