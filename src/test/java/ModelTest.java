import java.util.Random;

/** Runs of calls on made-up tables, each answer against that of the Model. */
public final class ModelTest {
    private static final Tally TALLY = new Tally("ModelTest");
    private final Random random;
    private final Tables tables;
    private final SilverBall ball = new SilverBall();
    private final Model model = new Model();
    private final long seed;
    private static final long[] SEEN = new long[16];

    private ModelTest(long seed) {
        this.seed = seed;
        random = new Random(seed * 31 + 7);
        tables = new Tables(seed);
    }

    public static void main(String[] args) {
        long from = args.length > 0 ? Long.parseLong(args[0]) : 1;
        long runs = args.length > 1 ? Long.parseLong(args[1]) : 3000;
        for (long seed = from; seed < from + runs && TALLY.failed() < 20; seed++) {
            ModelTest test = new ModelTest(seed);
            if (seed % 3 == 0) {
                test.compareFaults();
            } else {
                test.compareGames();
                // and a second table on the same object
                test.compareGames();
            }
        }
        StringBuilder seen = new StringBuilder("ModelTest has seen:");
        String[] what = {"sound", "syntax", "room", "twice", "name", "wrong", "rings", "endless", "lost", "tilted",
            "over", "stuck", "lit", "fired"};
        for (int i = 0; i < what.length; i++) {
            seen.append(' ').append(what[i]).append(' ').append(SEEN[i]);
            TALLY.due("that there was any " + what[i], SEEN[i] > 0 || args.length > 0, true);
        }
        System.out.println(seen);
        TALLY.close();
    }

    private void due(String call, long got, long want) {
        TALLY.due("seed " + seed + " " + call, got, want);
    }

    private int read(String text) {
        byte[] bytes = Tally.bytes(text);
        int whole = (bytes.length + 19) / 20 * 20;
        for (int at = 0; at < whole; at += 20) {
            int[] five = new int[5];
            for (int i = 0; i < 5; i++) {
                five[i] = Tally.intAt(bytes, at + 4 * i);
            }
            due("feed", ball.feed(five[0], five[1], five[2], five[3], five[4]), model.feed(five));
        }
        due("back", ball.back(whole - bytes.length), model.back(whole - bytes.length));
        int fault = ball.read();
        due("read", fault, model.read());
        due("place", ball.place(), model.place());
        SEEN[fault]++;
        return fault;
    }

    private void compareFaults() {
        for (int i = 0; i < 40; i++) {
            int failedAhead = TALLY.failed();
            String text = i % 4 == 0 ? tables.crowded() : i % 4 == 1 ? tables.spoiled() : tables.misnamed();
            read(text);
            due("ring", ball.ring(), model.ring());
            if (TALLY.failed() > failedAhead) {
                System.out.println(text);
                return;
            }
        }
        compareAll();
    }

    private void compareGames() {
        String text = tables.sound();
        int failedAhead = TALLY.failed();
        read(text);
        due("ring", ball.ring(), model.ring());
        SEEN[6] += ball.ring() >= 0 ? 1 : 0;
        compareAll();
        for (int i = 0; i < 60 && TALLY.failed() == failedAhead; i++) {
            doOne(i);
            compareAll();
        }
        due("again", ball.again(), model.again());
        note();
        if (TALLY.failed() > failedAhead) {
            System.out.println(text);
        }
    }

    private void doOne(int i) {
        int which = random.nextInt(100);
        if (i == 0 || which < 1) {
            due("begin", ball.begin() ? 1 : 0, model.begin() ? 1 : 0);
        } else if (which < 65) {
            int s = random.nextInt(ball.count(0) + 2) - (random.nextInt(20) == 0 ? 1 : 0);
            due("press " + s, ball.press(s), model.press(s));
        } else if (which < 97) {
            int n = random.nextInt(10) == 0 ? random.nextInt(120) - 5 : 1 + random.nextInt(3);
            int fired = ball.ticks(n);
            due("ticks " + n, fired, model.ticks(n));
            SEEN[13] += Math.max(0, fired);
        } else if (which < 99) {
            due("again", ball.again(), model.again());
        } else {
            String text = tables.spoiled();
            read(text);
        }
    }

    private void note() {
        SEEN[7] += ball.count(12) > 0 ? 1 : 0;
        SEEN[8] += ball.count(11) > 0 ? 1 : 0;
        SEEN[9] += ball.count(13) > 0 ? 1 : 0;
        SEEN[10] += ball.count(7) == 0 ? 1 : 0;
        for (int s = 0; s < ball.count(0); s++) {
            SEEN[11] += ball.told(s, 2) == 1 ? 1 : 0;
        }
        for (int l = 0; l < ball.count(2); l++) {
            SEEN[12] += ball.lamp(l) == 1 ? 1 : 0;
        }
    }

    private void compareAll() {
        due("score", ball.score(), model.score());
        for (int what = -1; what <= 16; what++) {
            due("count " + what, ball.count(what), model.count(what));
        }
        for (int i = -1; i <= 16; i++) {
            for (int what = -1; what <= 4; what++) {
                due("told " + i + " " + what, ball.told(i, what), model.told(i, what));
                due("coil " + i + " " + what, ball.coil(i, what), model.coil(i, what));
                due("mode " + i + " " + what, ball.mode(i, what), model.mode(i, what));
            }
            due("lamp " + i, ball.lamp(i), model.lamp(i));
            due("value " + i, ball.value(i), model.value(i));
            due("balls " + i + " most", ball.balls(i, true), model.balls(i, true));
            due("balls " + i + " least", ball.balls(i, false), model.balls(i, false));
        }
    }
}
