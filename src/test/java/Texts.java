/** Feeds texts. */
final class Texts {
    private Texts() {
    }

    /** The text on the tape, in pieces of twenty bytes, the last one with blanks behind it. */
    static void feed(ScanPacker x, String text) {
        for (int at = 0; at < text.length(); at += 20) {
            int[] numbers = new int[5];
            for (int k = 0; k < 20; k++) {
                int sign = at + k < text.length() ? text.charAt(at + k) : ' ';
                numbers[k / 4] = numbers[k / 4] << 8 | sign & 255;
            }
            x.feed(numbers[0], numbers[1], numbers[2], numbers[3], numbers[4]);
        }
    }

    static int net(ScanPacker x, String text) {
        feed(x, text);
        return x.net(text.length());
    }

    /** A new object with the NET of a text; says so if the text has a FAULT. */
    static ScanPacker of(String text) {
        ScanPacker x = new ScanPacker();
        Check.due("net of [" + text + "]", () -> net(x, text), 0);
        return x;
    }
}
