import java.nio.charset.StandardCharsets;

/** Counts what tests find, and knows how to put a text on the tape of an object. */
final class Tally {
    private final String title;
    private int passed = 0;
    private int failed = 0;

    Tally(String title) {
        this.title = title;
    }

    void due(String what, long got, long want) {
        if (got == want) {
            passed++;
        } else {
            failed++;
            System.out.println(title + ": " + what + " answered " + got + ", due is " + want);
        }
    }

    void due(String what, boolean got, boolean want) {
        due(what, got ? 1 : 0, want ? 1 : 0);
    }

    int failed() {
        return failed;
    }

    void close() {
        System.out.println(title + ": " + passed + " passed, " + failed + " failed");
        if (failed > 0) {
            System.exit(1);
        }
    }

    /** Feeds the bytes, filled up with blanks to whole calls, and takes the blanks back. */
    static void feed(SilverBall ball, byte[] text) {
        int[] five = new int[5];
        int whole = (text.length + 19) / 20 * 20;
        for (int at = 0; at < whole; at += 20) {
            for (int i = 0; i < 5; i++) {
                five[i] = intAt(text, at + 4 * i);
            }
            ball.feed(five[0], five[1], five[2], five[3], five[4]);
        }
        ball.back(whole - text.length);
    }

    static int intAt(byte[] text, int at) {
        int four = 0;
        for (int i = at; i < at + 4; i++) {
            four = four << 8 | (i < text.length ? text[i] & 255 : ' ');
        }
        return four;
    }

    static byte[] bytes(String text) {
        return text.getBytes(StandardCharsets.ISO_8859_1);
    }

    static int read(SilverBall ball, String text) {
        feed(ball, bytes(text));
        return ball.read();
    }

    /** A new object whose table is this text, with a game begun. */
    static SilverBall playing(String text) {
        SilverBall ball = new SilverBall();
        if (read(ball, text) != 0 || !ball.begin()) {
            throw new IllegalStateException("fault " + ball.place() + " in " + text);
        }
        return ball;
    }
}
