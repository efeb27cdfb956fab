/** Makes objects that were told a text. */
final class Told {
    private Told() {
    }

    /** Feeds a text whose signs are 0 to 255. */
    static void feed(GoodbyeQuay quay, String text) {
        for (int at = 0; at < text.length(); at += 20) {
            int[] n = new int[5];
            for (int i = 0; i < 20; i++) {
                int c = at + i < text.length() ? text.charAt(at + i) & 255 : 0;
                n[i / 4] = n[i / 4] << 8 | c;
            }
            quay.feed(n[0], n[1], n[2], n[3], n[4]);
        }
        quay.end(text.length());
    }

    /** A new object that was told the text. */
    static GoodbyeQuay of(String text) {
        GoodbyeQuay quay = new GoodbyeQuay();
        feed(quay, text);
        quay.quay();
        return quay;
    }

    static void minutes(GoodbyeQuay quay, int many) {
        for (int i = 0; i < many; i++) {
            quay.minute();
        }
    }
}
