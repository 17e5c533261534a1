import java.util.ArrayList;
import java.util.List;

/**
 * The edges that promises 6 to 18 name: numbers of which there is none, questions that there are not, no table, no
 * game, calls that are refused and then do nothing, and the ends of the log and of the ticks.
 */
public final class AnswerEdgeTest {
    private static final Tally T = new Tally("AnswerEdgeTest");
    private static final int NONE = SilverBall.NONE;
    private static final int LEAST = Integer.MIN_VALUE;
    private static final int MOST = Integer.MAX_VALUE;
    private static final String ONE_OF_EACH = "switch a 7; coil c 6; lamp l a; place p; var v 5; mode m 4 time 3;"
            + "on a: score 2, fire c; end";

    private AnswerEdgeTest() {
    }

    public static void main(String[] args) {
        nothingWithoutTable();
        nothingWithoutGame();
        allInAGame();
        begin();
        press();
        pressesInTheLog();
        ticksOfACall();
        ticksOfAGame();
        score();
        told();
        coil();
        lamp();
        value();
        mode();
        balls();
        again();
        againLeavesTheGame();
        ring();
        ringsOfLeave();
        ringThroughMany();
        count();
        countOfTheGame();
        fiveHundredTwelveCalls();
        T.close();
    }

    private static int[] numbers() {
        return new int[] {LEAST, LEAST + 1, -65536, -256, -2, -1, 0, 1, 2, 3, 4, 7, 8, 12, 15, 16, 17, 32, 256, 65536,
            MOST - 1, MOST};
    }

    /** All that is asked by a number of which there is none, or in a way that there is not. */
    private static void dueNone(String label, SilverBall x, boolean table, boolean game) {
        for (int n : numbers()) {
            for (int what : numbers()) {
                boolean asked = n == 0 && what >= 0 && what <= 3;
                boolean rest = asked && what == 3 && table;
                if (!(rest || asked && game)) {
                    T.due("10 told " + label, x.told(n, what), NONE);
                    T.due("14 mode " + label, x.mode(n, what), NONE);
                }
                if (!asked || what == 3 || !game) {
                    T.due("11 coil " + label, x.coil(n, what), NONE);
                }
            }
            if (n != 0 || !game) {
                T.due("7 press " + label, x.press(n), NONE);
                T.due("12 lamp " + label, x.lamp(n), NONE);
                T.due("13 value " + label, x.value(n), 0);
                T.due("15 balls at most " + label, x.balls(n, true), NONE);
                T.due("15 balls at least " + label, x.balls(n, false), NONE);
            }
            if (n < 1 || n > 100 || !game) {
                T.due("8 ticks " + label, x.ticks(n), NONE);
            }
            if (n < 0 || n > 15) {
                T.due("18 count " + label, x.count(n), NONE);
            }
        }
    }

    private static void nothingWithoutTable() {
        SilverBall x = new SilverBall();
        T.due("6 begin without a table", x.begin(), false);
        dueNone("without a table", x, false, false);
        T.due("9 score without a table", x.score(), NONE);
        T.due("16 again without a table", x.again(), NONE);
        T.due("17 ring without a table", x.ring(), NONE);
        for (int what = 0; what <= 15; what++) {
            T.due("18 count without a table", x.count(what), 0);
        }
        Tally.read(x, "switch a 1; $");
        T.due("6 begin behind a fault alone", x.begin(), false);
        dueNone("behind a fault alone", x, false, false);
        T.due("18 none of its switches", x.count(0), 0);
    }

    private static void nothingWithoutGame() {
        SilverBall x = new SilverBall();
        Tally.read(x, ONE_OF_EACH);
        dueNone("without a game", x, true, false);
        T.due("10 bounce without a game", x.told(0, 3), 7);
        T.due("14 rank without a game", x.mode(0, 3), 4);
        T.due("9 score without a game", x.score(), NONE);
        T.due("16 again without a game", x.again(), NONE);
        for (int what = 0; what <= 6; what++) {
            T.due("18 count without a game", x.count(what), 1);
        }
        for (int what = 7; what <= 15; what++) {
            T.due("18 count without a game", x.count(what), 0);
        }
    }

    private static void allInAGame() {
        SilverBall x = Tally.playing(ONE_OF_EACH);
        dueNone("in a game", x, true, true);
        T.due("7 none of these was pressed", x.told(0, 1), 0);
        T.due("18 nor in the log", x.count(14), 0);
        T.due("18 nor did a tick go by", x.count(9), 0);
        int[] told = {0, 0, 0, 7};
        int[] coil = {0, NONE, NONE, NONE};
        int[] mode = {1, 3, 1, 4};
        for (int what = 0; what <= 3; what++) {
            T.due("10 told " + what, x.told(0, what), told[what]);
            T.due("11 coil " + what, x.coil(0, what), coil[what]);
            T.due("14 mode " + what, x.mode(0, what), mode[what]);
        }
        x = new SilverBall();
        x.read();
        x.begin();
        for (int n : numbers()) {
            T.due("7 press on an empty table", x.press(n), NONE);
            T.due("13 value on an empty table", x.value(n), 0);
            for (int what : numbers()) {
                T.due("10 told on an empty table", x.told(n, what), NONE);
                T.due("14 mode on an empty table", x.mode(n, what), NONE);
            }
        }
        T.due("9 score on an empty table", x.score(), 0);
        T.due("18 a ball on an empty table", x.count(7), 1);
    }

    // "A game begins (one that went on is away): true; false without a TABLE."

    private static void begin() {
        SilverBall x = Tally.playing(ONE_OF_EACH);
        x.press(0);
        x.ticks(2);
        T.due("6 one that went on", x.begin(), true);
        T.due("6 its score is away", x.score(), 0);
        T.due("6 its ticks", x.count(9), 0);
        T.due("6 its log", x.count(14), 0);
        T.due("6 its presses", x.told(0, 1), 0);
        T.due("6 its bounce", x.press(0), 1);
        T.due("6 again at once", x.begin(), true);
        T.due("6 that press too", x.again(), 0);
    }

    // "A PRESS of SWITCH s: 1 it counts, 0 it does not; NONE: no such SWITCH, no game"

    private static void press() {
        SilverBall x = Tally.playing("switch a 1; switch b 0; mode m 0; on a: score 1; on b: score 10; end");
        T.due("7 counts", x.press(0), 1);
        T.due("7 does not", x.press(0), 0);
        T.due("7 the last switch", x.press(1), 1);
        T.due("7 one behind it", x.press(2), NONE);
        T.due("7 one below 0", x.press(-1), NONE);
        T.due("7 the least", x.press(LEAST), NONE);
        T.due("7 the most", x.press(MOST), NONE);
        T.due("18 those that were presses are in the log", x.count(14), 3);
        T.due("9 by rules", x.score(), 11);
    }

    // "or 600 PRESSES are in its log"

    private static void pressesInTheLog() {
        SilverBall x = Tally.playing("switch a 1; mode m 0; on a: score 1; end");
        for (int i = 0; i < 599; i++) {
            x.press(0);
        }
        T.due("7 the 600th", x.press(0), 0);
        T.due("18 600 are in the log", x.count(14), 600);
        x.ticks(1);
        T.due("7 the 601st, though it would count", x.press(0), NONE);
        T.due("10 is none", x.told(0, 1), 600);
        T.due("18 nor in the log", x.count(14), 600);
        T.due("9 nor for rules", x.score(), 1);
        T.due("8 ticks go by", x.ticks(1), 0);
        x.begin();
        T.due("7 another game has its own", x.press(0), 1);
    }

    // "n TICKS (1 .. 100) go by: how many COILS fired in them. NONE, and nothing happens: no game, another n"

    private static void ticksOfACall() {
        SilverBall x = Tally.playing("coil c 0; coil d 3; mode m 0 time 1; on begin: fire c, fire d;"
                + "on stop: start m; end");
        T.due("8 none", x.ticks(0), NONE);
        T.due("8 101", x.ticks(101), NONE);
        T.due("8 below 0", x.ticks(-1), NONE);
        T.due("8 the least", x.ticks(LEAST), NONE);
        T.due("8 the most", x.ticks(MOST), NONE);
        T.due("8 nothing happened", x.count(9), 0);
        T.due("8 no coil fired", x.coil(0, 0), 0);
        T.due("8 no time went by", x.mode(0, 2), 1);
        T.due("8 one tick, two coils", x.ticks(1), 2);
        T.due("8 100 ticks, two coils", x.ticks(100), 100 + 33);
        T.due("8 all of them went by", x.count(9), 101);
    }

    // "or more than 5,000 would be gone by in it"

    private static void ticksOfAGame() {
        SilverBall x = Tally.playing("switch a 0; coil c 0; mode m 0; on a: fire c; end");
        for (int i = 0; i < 49; i++) {
            T.due("8 100 ticks", x.ticks(100), 0);
        }
        T.due("8 99 to 4999", x.ticks(99), 0);
        x.press(0);
        T.due("8 two from 4999", x.ticks(2), NONE);
        T.due("8 nothing happens", x.count(9), 4999);
        T.due("8 no coil fired", x.coil(0, 2), 0);
        T.due("8 one from 4999", x.ticks(1), 1);
        T.due("8 5000 are gone by", x.count(9), 5000);
        T.due("8 no more", x.ticks(1), NONE);
        T.due("8 nor many more", x.ticks(100), NONE);
        T.due("7 presses count", x.press(0), 1);
        T.due("16 the log has them all", x.again(), 0);
        x.begin();
        T.due("8 another game has its own", x.ticks(100), 0);
        T.due("8 in that game", x.count(9), 100);
    }

    // "The SCORE; NONE: no game."

    private static void score() {
        SilverBall x = new SilverBall();
        Tally.read(x, ONE_OF_EACH);
        T.due("9 no game", x.score(), NONE);
        x.begin();
        T.due("9 nothing yet", x.score(), 0);
        x.press(0);
        T.due("9 a score", x.score(), 2);
        Tally.read(x, "$");
        T.due("9 a fault leaves it", x.score(), 2);
        x.read();
        T.due("9 another table has none", x.score(), NONE);
    }

    // "what 0: how often it counted, 1: PRESSES, 2: 1 if it is STUCK, else 0, 3: its BOUNCE."

    private static void told() {
        SilverBall x = Tally.playing("switch a 2; switch o 0; switch b 99999; mode m 0; on o: drain; end");
        x.press(0);
        x.press(0);
        x.press(0);
        x.ticks(2);
        x.press(0);
        T.due("10 counted", x.told(0, 0), 2);
        T.due("10 presses", x.told(0, 1), 4);
        T.due("10 another counted", x.told(1, 0), 0);
        T.due("10 another's presses", x.told(1, 1), 0);
        T.due("10 the last one's bounce", x.told(2, 3), 99999);
        x.press(1);
        x.press(1);
        T.due("10 not stuck", x.told(0, 2), 0);
        T.due("10 stuck", x.told(2, 2), 1);
        x.press(1);
        T.due("10 presses of a game that is over", x.press(1), 0);
        T.due("10 are told", x.told(1, 1), 4);
        T.due("10 they do not count", x.told(1, 0), 3);
        T.due("10 one behind the last switch", x.told(3, 3), NONE);
        T.due("10 a fifth question", x.told(0, 4), NONE);
    }

    // "what 0: how often it fired, 1: the TICK when it did last (NONE), 2: its place among those that wait"

    private static void coil() {
        SilverBall x = Tally.playing("switch a 0; coil c 0; coil d 2; mode m 0; on a: fire d, fire c; end");
        T.due("11 never", x.coil(0, 0), 0);
        T.due("11 at no tick", x.coil(0, 1), NONE);
        T.due("11 nowhere", x.coil(0, 2), NONE);
        x.press(0);
        T.due("11 d is the first", x.coil(1, 2), 0);
        T.due("11 c is behind it", x.coil(0, 2), 1);
        T.due("11 at no tick yet", x.coil(1, 1), NONE);
        x.ticks(1);
        x.press(0);
        x.ticks(1);
        T.due("11 c twice", x.coil(0, 0), 2);
        T.due("11 c at tick 2", x.coil(0, 1), 2);
        T.due("11 d once", x.coil(1, 0), 1);
        T.due("11 d at tick 1", x.coil(1, 1), 1);
        T.due("11 d waits", x.coil(1, 2), 0);
        T.due("11 a fourth question", x.coil(0, 3), NONE);
        T.due("11 one behind the last coil", x.coil(2, 0), NONE);
        T.due("11 below 0", x.coil(-1, 2), NONE);
    }

    // "1 if LAMP l is LIT, else 0; NONE: no such one, no game."

    private static void lamp() {
        SilverBall x = new SilverBall();
        Tally.read(x, "switch a 0; switch b 0; lamp k b; lamp l a; mode m 0; on a: score 1; end");
        T.due("12 no game", x.lamp(0), NONE);
        x.begin();
        T.due("12 not lit", x.lamp(0), 0);
        T.due("12 lit", x.lamp(1), 1);
        T.due("12 one behind the last lamp", x.lamp(2), NONE);
        T.due("12 below 0", x.lamp(-1), NONE);
    }

    // "The value of VAR v; 0 if there is none such, or no game."

    private static void value() {
        SilverBall x = new SilverBall();
        Tally.read(x, "switch a 0; var v 3; var w 4; mode m 0; on a: set w -w; end");
        T.due("13 no game", x.value(0), 0);
        x.begin();
        T.due("13 the first", x.value(0), 3);
        x.press(0);
        T.due("13 below 0", x.value(1), -4);
        T.due("13 none such", x.value(2), 0);
        T.due("13 none below", x.value(-1), 0);
        T.due("13 none at all", x.value(MOST), 0);
        x.begin();
        T.due("13 another game", x.value(1), 4);
    }

    // "what 0: 1 if it is ON, else 0, 1: its TIME left (0: it is off, or has none), 2: how often it started, 3: its RANK."

    private static void mode() {
        SilverBall x = Tally.playing("switch a 0; switch b 0; mode m 7; on a: start n; on b: start m; end"
                + " mode n 99999 time 5; on b: leave; end mode o 0 time 8; end");
        T.due("14 mode 0 has no time", x.mode(0, 1), 0);
        T.due("14 n is off", x.mode(1, 0), 0);
        T.due("14 n has no time left", x.mode(1, 1), 0);
        T.due("14 n started never", x.mode(1, 2), 0);
        T.due("14 n's rank", x.mode(1, 3), 99999);
        x.press(0);
        x.ticks(1);
        x.press(0);
        x.ticks(1);
        T.due("14 n is on", x.mode(1, 0), 1);
        T.due("14 n has 4 left", x.mode(1, 1), 4);
        T.due("14 n started once", x.mode(1, 2), 1);
        x.press(1);
        T.due("14 n left", x.mode(1, 0), 0);
        T.due("14 nothing is left", x.mode(1, 1), 0);
        T.due("14 it started once all the same", x.mode(1, 2), 1);
        T.due("14 m was on and did not start", x.mode(0, 2), 1);
        x.press(0);
        T.due("14 n started twice", x.mode(1, 2), 2);
        T.due("14 o's time while it is off", x.mode(2, 1), 0);
        T.due("14 o's rank", x.mode(2, 3), 0);
        T.due("14 one behind the last mode", x.mode(3, 3), NONE);
        T.due("14 a fifth question", x.mode(0, 4), NONE);
    }

    // "How many balls there can be at most (most true), at least (false) at PLACE p by the LAYOUTS; NONE: no such PLACE"

    private static void balls() {
        SilverBall x = Tally.playing("switch a 0; switch d 0; place p; place q; way p q by a; mode m 0;"
                + "on begin: serve, serve; on d: drain; end");
        T.due("15 all of three, at most", x.balls(0, true), 3);
        T.due("15 all of three, at least", x.balls(0, false), 3);
        T.due("15 none, at most", x.balls(1, true), 0);
        T.due("15 none, at least", x.balls(1, false), 0);
        x.press(0);
        x.press(1);
        T.due("15 two or one, at most", x.balls(0, true), 2);
        T.due("15 two or one, at least", x.balls(0, false), 1);
        T.due("15 one or none, at most", x.balls(1, true), 1);
        T.due("15 one or none, at least", x.balls(1, false), 0);
        T.due("15 one behind the last place", x.balls(2, true), NONE);
        T.due("15 below 0", x.balls(-1, false), NONE);
        x = Tally.playing("switch a 0;");
        T.due("15 a table without places", x.balls(0, true), NONE);
    }

    // "The game's log once more, from its begin on, PRESSES and TICKS: the SCORE that comes by it"

    private static void again() {
        SilverBall x = Tally.playing("switch a 2; switch o 0; switch t 0; var v 1; mode m 0 time 2; on begin: score 1000;"
                + "on a: score v, set v v * 10; on o: drain; on t: tilt; on stop: start m; end");
        T.due("16 what came by the begin", x.again(), 1000);
        x.press(0);
        x.press(0);
        T.due("16 a press that did not count is in it", x.again(), 1001);
        x.press(5);
        x.ticks(0);
        x.ticks(101);
        T.due("16 what was refused is not", x.again(), 1001);
        x.ticks(1);
        x.press(0);
        x.ticks(1);
        T.due("16 mode 0 began again at tick 2", x.score(), 2001);
        T.due("16 ticks behind the last press", x.again(), 2001);
        x.press(0);
        T.due("16 the press of tick 2", x.again(), 2011);
        x.press(2);
        x.ticks(2);
        x.press(0);
        T.due("16 tilted", x.again(), 2011);
        x.press(1);
        x.ticks(2);
        T.due("16 the next ball", x.again(), 3011);
        x.press(1);
        x.press(1);
        T.due("16 the game is over", x.count(7), 0);
        x.ticks(100);
        x.press(0);
        T.due("16 with what came behind its end", x.again(), x.score());
        T.due("16 which is nothing", x.again(), 3011);
        x.begin();
        T.due("16 another log", x.again(), 1000);
    }

    private static List<Long> allAnswers(SilverBall x) {
        List<Long> all = new ArrayList<>();
        all.add(x.score());
        for (int what = 0; what <= 15; what++) {
            all.add((long) x.count(what));
        }
        for (int n = 0; n < 4; n++) {
            for (int what = 0; what < 4; what++) {
                all.add((long) x.told(n, what));
                all.add((long) x.coil(n, what));
                all.add((long) x.mode(n, what));
            }
            all.add((long) x.lamp(n));
            all.add((long) x.value(n));
            all.add((long) x.balls(n, true));
            all.add((long) x.balls(n, false));
        }
        all.add((long) x.place());
        all.add((long) x.ring());
        return all;
    }

    // "(the game stays)"

    private static void againLeavesTheGame() {
        SilverBall x = Tally.playing("switch a 1; switch o 0; coil c 4; coil d 4; apart c d; lamp l a; place p; place q;"
                + "place r; way p q by a; way q r by o; way r p; var v 3; mode m 0 time 50;"
                + "on begin: start n; on a: score v, set v v + 1, fire c, fire d, serve; on o: drain, start n; end"
                + " mode n 3 time 6; on a if left < 3: tilt; on stop: score 5, start n; end");
        int[] presses = {0, 0, 1, 0, 1, 1, 0, 1, 1, 0, 0, 1, 1, 1, 1, 0, 1, 1, 1, 1, 0, 1, 1};
        for (int i = 0; i < presses.length; i++) {
            x.press(presses[i]);
            List<Long> ahead = allAnswers(x);
            T.due("16 the score", x.again(), x.score());
            T.due("16 the game stays", allAnswers(x).equals(ahead), true);
            if (i % 2 == 0) {
                x.ticks(1 + i % 3);
                ahead = allAnswers(x);
                T.due("16 the score behind ticks", x.again(), x.score());
                T.due("16 the game stays behind ticks", allAnswers(x).equals(ahead), true);
            }
        }
    }

    private static void dueRing(String text, int want) {
        SilverBall x = new SilverBall();
        T.due("4 " + text, Tally.read(x, text), 0);
        T.due("17 " + text, x.ring(), want);
        x.begin();
        T.due("17 in a game " + text, x.ring(), want);
    }

    // "The first MODE that by RULES on begin (on stop) and their ACTS start, leave, whatever their CONDS, can come to be
    // started within its own start, by numbers; NONE: none."

    private static void ring() {
        dueRing("mode m 0; end", NONE);
        dueRing("mode m 0; on begin: start m; end", 0);
        dueRing("mode m 0; on begin: start n; end mode n 0; on begin: start n; end", 1);
        dueRing("mode m 0; on begin if 1 < 0: start n; end mode n 0; on begin if 1 < 0: score 1, start m; end", 0);
        dueRing("mode m 0; on begin: start n, start o; end mode n 0; end mode o 0; on begin: start n; end", NONE);
        dueRing("mode m 0; on begin: score 1; on begin: score 2, start m; end", 0);
        // of two rings the one of the lesser number, and of a ring its least
        dueRing("mode m 0; end mode n 0; on begin: start o; end mode o 0; on begin: start p; end"
                + " mode p 0; on begin: start n; end", 1);
        dueRing("mode m 0; end mode n 0; on begin: start o; end mode o 0; on begin: start o; end"
                + " mode p 0; on begin: start p; end", 2);
        // rules on switches start nothing within a start
        dueRing("switch a 0; mode m 0; on a: start m; end", NONE);
        dueRing("switch a 0; mode m 0; on a: start n; end mode n 0; on begin: start m; end", NONE);
        dueRing("switch a 0; switch b 0; mode m 0; on b: start m; on begin: start n; end mode n 0; on b: start m; end", NONE);
        dueRing("switch a 0; mode m 0; on begin: leave; on a: start m; end", NONE);
        dueRing("switch a 0; mode m 0; on begin: start n; on a: leave; on stop: start m; end mode n 0; end", NONE);
        // a start leads to rules on begin alone
        dueRing("mode m 0; on begin: start n; end mode n 0; on stop: start m; end", NONE);
        dueRing("mode m 0; on begin: start n; on stop: start m; end mode n 0; on stop: start n; end", NONE);
    }

    // "(leave: of its own MODE on stop; start: of the started one on begin.)"

    private static void ringsOfLeave() {
        dueRing("mode m 0; on begin: leave; end", NONE);
        dueRing("mode m 0; on begin: leave; on stop: leave; end", NONE);
        dueRing("mode m 0; on begin: leave; on stop: start m; end", 0);
        dueRing("mode m 0; on stop: start m; end", NONE);
        dueRing("switch a 0; mode m 0; on a: leave; on stop: start m; end", NONE);
        dueRing("mode m 0; on begin: tilt; on stop: start m; end", NONE);
        dueRing("mode m 0; on begin: start n; on stop: start m; end mode n 0; on begin: leave; end", NONE);
        dueRing("mode m 0; on begin: start n; end mode n 0; on begin: leave; on stop: start n; end", 1);
        dueRing("mode m 0; on stop: start n; end mode n 0; on begin: start o; end mode o 0; on begin: leave;"
                + "on stop: start n; end", 1);
        dueRing("mode m 0; on begin: leave; on stop: start n; end mode n 0; on begin: leave; on stop: start o; end"
                + " mode o 0; on begin: leave; on stop: start m; end", 0);
        // n leads to o's rules on begin, not to those on stop that lead to n
        dueRing("mode m 0; on begin: leave; end mode n 0; on begin: start o; end mode o 0; on stop: start n; end", NONE);
        dueRing("mode m 0; on stop: start m; end mode n 0; on begin: start o; end mode o 0; on begin: start p; on stop: leave; end"
                + " mode p 0; on stop: start n; end", NONE);
        // a leave in rules on stop leads to these rules again, to no more
        dueRing("mode m 0; on stop: leave, start n; end mode n 0; on begin: start o; on stop: start n; end mode o 0; end", NONE);
    }

    private static void ringThroughMany() {
        StringBuilder text = new StringBuilder("mode n0 0; on begin: start n11; end ");
        StringBuilder leaves = new StringBuilder("mode n0 0; on begin: leave; on stop: start n1; end ");
        for (int m = 1; m < 12; m++) {
            text.append("mode n").append(m).append(" 0; on begin: start n").append(m - 1).append("; end ");
            leaves.append("mode n").append(m).append(" 0; on begin: leave; on stop: start n").append((m + 1) % 12)
                    .append("; end ");
        }
        dueRing(text.toString(), 0);
        dueRing(leaves.toString(), 0);
        dueRing(text.toString().replace("start n11", "score 1"), NONE);
        dueRing(leaves.toString().replace("start n0", "score 1"), NONE);
        dueRing(leaves.toString().replace("start n0", "start n11"), 11);
        dueRing(text.toString().replaceFirst("start n11", "score 1").replace("start n10", "start n11"), 11);
        dueRing(text.toString().replaceFirst("start n11", "score 1").replaceFirst("start n0", "start n11"), 1);
    }

    // "0 SWITCHES, 1 COILS, 2 LAMPS, 3 PLACES, 4 VARS, 5 MODES, 6 RULES", "15 bytes on the tape"

    private static void count() {
        SilverBall x = new SilverBall();
        String[] parts = {"switch a 0;", "coil c 0; coil d 0;", "lamp l a; lamp k a; lamp j a;",
            "place p; place q; place r; place t;", "var v 0; var w 0; var x 0; var y 0; var z 0;",
            "mode m 0; on begin: hold; end mode n 0; on stop: hold; on a: hold; end mode o 0; end"};
        StringBuilder text = new StringBuilder();
        int[] want = {1, 2, 3, 4, 5, 3};
        for (int i = 0; i < parts.length; i++) {
            text.append(parts[i]);
            T.due("4 so much of it", Tally.read(x, text.toString()), 0);
            for (int what = 0; what < want.length; what++) {
                T.due("18 count " + what + " with " + (i + 1) + " sorts", x.count(what), what <= i ? want[what] : 0);
            }
            T.due("18 rules with " + (i + 1) + " sorts", x.count(6), i < 5 ? 0 : 3);
        }
        T.due("4 ways and aparts", Tally.read(x, "coil c 0; coil d 0; place p; place q; apart c d; way p q; way q p;"), 0);
        int[] without = {0, 2, 0, 2, 0, 0, 0};
        for (int what = 0; what < without.length; what++) {
            T.due("18 ways and aparts are not counted " + what, x.count(what), without[what]);
        }
        T.due("18 no byte", x.count(15), 0);
        x.feed(1, 2, 3, 4, 5);
        T.due("18 twenty bytes", x.count(15), 20);
        x.back(3);
        T.due("18 seventeen", x.count(15), 17);
        T.due("18 one below 0", x.count(-1), NONE);
        T.due("18 one behind 15", x.count(16), NONE);
    }

    // "of the game: 7 the BALL (1 .. 3; 0: it is over, or there is none), 8 IN PLAY, 9 TICKS, 10 LAYOUTS known, 11 how
    // often LOST, 12 whether ENDLESS, 13 whether TILTED, 14 PRESSES in the log"

    private static void countOfTheGame() {
        SilverBall x = Tally.playing("switch a 1; switch t 0; switch o 0; place p; place q; place r; way q r by a;"
                + "mode m 0; on a: serve; on t: tilt; on o: drain; end");
        dueGame("at the begin", x, 1, 1, 0, 1, 0, 0, 0, 0);
        x.press(0);
        dueGame("lost, and one more", x, 1, 2, 0, 3, 1, 0, 0, 1);
        x.press(0);
        dueGame("a press that did not count", x, 1, 2, 0, 3, 1, 0, 0, 2);
        x.ticks(3);
        dueGame("three ticks", x, 1, 2, 3, 3, 1, 0, 0, 2);
        x.press(1);
        dueGame("tilted", x, 1, 2, 3, 3, 1, 0, 1, 3);
        x.press(2);
        dueGame("one drained", x, 1, 1, 3, 3, 1, 0, 1, 4);
        x.press(2);
        dueGame("the second ball", x, 2, 1, 3, 1, 1, 0, 0, 5);
        x.press(2);
        dueGame("the third ball", x, 3, 1, 3, 1, 1, 0, 0, 6);
        x.press(2);
        dueGame("over", x, 0, 0, 3, 1, 1, 0, 0, 7);
        x.press(0);
        dueGame("over, one more press", x, 0, 0, 3, 1, 1, 0, 0, 8);
        x.begin();
        dueGame("another game", x, 1, 1, 0, 1, 0, 0, 0, 0);
        x.read();
        dueGame("no game", x, 0, 0, 0, 0, 0, 0, 0, 0);
    }

    private static void dueGame(String label, SilverBall x, int... want) {
        for (int i = 0; i < want.length; i++) {
            T.due("18 " + label + ", count " + (i + 7), x.count(i + 7), want[i]);
        }
    }

    // "An object is used for at most 512 calls after it has been made"

    private static void fiveHundredTwelveCalls() {
        SilverBall x = new SilverBall();
        x.feed(0x73776974, 0x63682061, 0x20303b6d, 0x6f646520, 0x6d20303b);
        x.feed(0x6f6e2061, 0x3a73636f, 0x72652031, 0x3b656e64, 0x20202020);
        T.due("4 the third call", x.read(), 0);
        x.begin();
        for (int call = 5; call < 511; call++) {
            x.press(0);
        }
        T.due("9 the 511th call", x.score(), 506);
        T.due("16 the 512th call", x.again(), 506);
    }
}
