/** The promises one by one: ordinary inputs, the edges that the document names, wrong inputs. */
public final class PromiseTest {
    private static final Tally T = new Tally("PromiseTest");
    private static final int NONE = SilverBall.NONE;

    private PromiseTest() {
    }

    public static void main(String[] args) {
        newObject();
        feedAndBack();
        readAndPlace();
        begin();
        press();
        bounce();
        ticks();
        score();
        told();
        stuck();
        coils();
        apartCoils();
        lamps();
        values();
        sums();
        modes();
        orderOfModes();
        modeThatGoesOffMeanwhile();
        hold();
        rulesOnBeginAndStop();
        within();
        timeOfModes();
        endless();
        endlessTick();
        ballsOver();
        tilt();
        layouts();
        silentWays();
        lost();
        again();
        ring();
        count();
        log();
        secondGame();
        secondTable();
        T.close();
    }

    private static void newObject() {
        SilverBall x = new SilverBall();
        T.due("1 begin", x.begin(), false);
        T.due("1 press", x.press(0), NONE);
        T.due("1 ticks", x.ticks(1), NONE);
        T.due("1 score", x.score(), NONE);
        T.due("1 again", x.again(), NONE);
        T.due("1 ring", x.ring(), NONE);
        T.due("1 place", x.place(), NONE);
        T.due("1 told", x.told(0, 3), NONE);
        T.due("1 coil", x.coil(0, 0), NONE);
        T.due("1 lamp", x.lamp(0), NONE);
        T.due("1 value", x.value(0), 0);
        T.due("1 mode", x.mode(0, 3), NONE);
        T.due("1 balls", x.balls(0, true), NONE);
        for (int what = 0; what <= 15; what++) {
            T.due("1 count " + what, x.count(what), 0);
        }
    }

    private static void feedAndBack() {
        SilverBall x = new SilverBall();
        T.due("3 back of none", x.back(0), 0);
        T.due("3 back of too many", x.back(1), NONE);
        T.due("3 back below 0", x.back(-1), NONE);
        T.due("3 back far below 0", x.back(Integer.MIN_VALUE), NONE);
        for (int i = 1; i <= 200; i++) {
            T.due("2 feed", x.feed(0, 0, 0, 0, 0), 20 * i);
        }
        T.due("2 feed over 4000", x.feed(0, 0, 0, 0, 0), NONE);
        T.due("2 nothing came", x.count(15), 4000);
        T.due("3 back", x.back(19), 3981);
        T.due("2 feed over 4000 again", x.feed(0, 0, 0, 0, 0), NONE);
        T.due("3 back of one", x.back(1), 3980);
        T.due("2 feed to 4000", x.feed(0, 0, 0, 0, 0), 4000);
        T.due("3 back of 4001", x.back(4001), NONE);
        T.due("3 nothing went", x.count(15), 4000);
        T.due("3 back of all", x.back(4000), 0);
    }

    private static void readAndPlace() {
        SilverBall x = new SilverBall();
        // "switch abcdefg 12;" in big-endian words, and two blanks
        x.feed(0x73776974, 0x63682061, 0x62636465, 0x66672031, 0x323b2020);
        T.due("4 bytes in their order", x.read(), 0);
        T.due("4 its bounce", x.told(0, 3), 12);
        T.due("4 the tape is empty", x.count(15), 0);
        T.due("5 no fault", x.place(), NONE);
        x.begin();
        T.due("4 a fault", Tally.read(x, "switch a 1"), 1);
        T.due("4 the tape is empty behind a fault too", x.count(15), 0);
        T.due("5 its place", x.place(), 10);
        T.due("4 the table stays", x.told(0, 3), 12);
        T.due("4 the game stays", x.count(7), 1);
        T.due("4 read of nothing", x.read(), 0);
        T.due("5 the place is away", x.place(), NONE);
        T.due("4 a table without anything", x.count(0), 0);
        T.due("4 there is no game", x.score(), NONE);
        T.due("6 a game on a table without anything", x.begin(), true);
        T.due("7 no switch there", x.press(0), NONE);
        T.due("8 ticks there", x.ticks(100), 0);
    }

    private static void begin() {
        SilverBall x = Tally.playing("switch a 9; var v 4; mode m 0; on a: score 3, set v 9, serve; end");
        T.due("6 served", x.count(8), 1);
        x.press(0);
        x.ticks(5);
        T.due("6 again", x.begin(), true);
        T.due("6 score", x.score(), 0);
        T.due("6 vars", x.value(0), 4);
        T.due("6 ticks", x.count(9), 0);
        T.due("6 in play", x.count(8), 1);
        T.due("6 log", x.count(14), 0);
        T.due("6 counted", x.told(0, 0), 0);
        T.due("6 no bounce from the game that went on", x.press(0), 1);
        x = Tally.playing("var v 7; mode m 0; on begin: score v * balls, drain; on stop: score 1; end");
        T.due("6 rules on begin of mode 0", x.score(), 7);
        T.due("6 the first ball is over at once", x.count(7), 2);
        T.due("6 the second is served", x.count(8), 1);
        T.due("6 mode 0 stays on", x.mode(0, 0), 1);
        T.due("6 mode 0 started once", x.mode(0, 2), 1);
    }

    private static void press() {
        SilverBall x = Tally.playing("switch a 0; switch b 0; mode m 0; on a: score 1; on a: score 2; end");
        T.due("7 counts", x.press(0), 1);
        T.due("7 each rule", x.score(), 3);
        T.due("7 no rule", x.press(1), 1);
        T.due("7 no switch", x.press(2), NONE);
        T.due("7 below 0", x.press(-1), NONE);
        T.due("7 only presses of switches are logged", x.count(14), 2);
    }

    private static void bounce() {
        SilverBall x = Tally.playing("switch a 3; switch b 1;");
        T.due("7 first", x.press(0), 1);
        T.due("7 at once", x.press(0), 0);
        x.ticks(2);
        T.due("7 two ticks on", x.press(0), 0);
        T.due("7 another", x.press(1), 1);
        x.ticks(1);
        T.due("7 three ticks behind the one that counted", x.press(0), 1);
        T.due("7 one tick", x.press(1), 1);
        x.ticks(2);
        T.due("7 two ticks behind that", x.press(0), 0);
        T.due("10 counted", x.told(0, 0), 2);
        T.due("10 pressed", x.told(0, 1), 5);
    }

    private static void ticks() {
        SilverBall x = Tally.playing("coil c 0; mode m 0; on begin: fire c; end");
        T.due("8 fired", x.ticks(2), 1);
        T.due("8 of 0", x.ticks(0), NONE);
        T.due("8 of 101", x.ticks(101), NONE);
        T.due("8 below 0", x.ticks(-1), NONE);
        T.due("8 far too many", x.ticks(Integer.MAX_VALUE), NONE);
        T.due("8 nothing happened", x.count(9), 2);
        for (int i = 0; i < 49; i++) {
            x.ticks(100);
        }
        T.due("8 more than 5000", x.ticks(99), NONE);
        T.due("8 nothing happened then", x.count(9), 4902);
        T.due("8 to 5000", x.ticks(98), 0);
        T.due("8 behind 5000", x.ticks(1), NONE);
        x.begin();
        T.due("8 in a new game", x.ticks(1), 1);
    }

    private static void score() {
        SilverBall x = Tally.playing("switch a 0; switch b 0; switch c 0; var v 99999; mode m 0;"
                + "on a: score v * 20000; on b: score -v * 20000; on c: score 5, score -7, score 1; end");
        x.press(2);
        T.due("9 no less than 0", x.score(), 1);
        x.press(0);
        x.press(0);
        T.due("9 a long", x.score(), 1 + 2 * 1999980000L);
        x.press(1);
        T.due("9 less", x.score(), 1 + 1999980000L);
        x.press(1);
        x.press(1);
        T.due("9 no less than 0 again", x.score(), 0);
    }

    private static void told() {
        SilverBall x = new SilverBall();
        Tally.read(x, "switch a 2; switch b 99999;");
        T.due("10 bounce without a game", x.told(1, 3), 99999);
        T.due("10 counted without a game", x.told(0, 0), NONE);
        T.due("10 presses without a game", x.told(0, 1), NONE);
        T.due("10 stuck without a game", x.told(0, 2), NONE);
        x.begin();
        x.press(0);
        x.press(0);
        T.due("10 counted", x.told(0, 0), 1);
        T.due("10 presses", x.told(0, 1), 2);
        T.due("10 stuck", x.told(0, 2), 0);
        T.due("10 bounce", x.told(0, 3), 2);
        T.due("10 what 4", x.told(0, 4), NONE);
        T.due("10 what -1", x.told(0, -1), NONE);
        T.due("10 no switch", x.told(2, 3), NONE);
        T.due("10 below 0", x.told(-1, 0), NONE);
    }

    private static void stuck() {
        SilverBall x = Tally.playing("switch out 0; switch a 0; switch b 0; switch c 0; mode m 0; on out: drain; end");
        x.press(1);
        x.press(0);
        T.due("10 none stuck behind one ball", x.told(2, 2), 0);
        x.press(3);
        x.press(0);
        T.due("10 counted in the first ball", x.told(1, 2), 0);
        T.due("10 counted in none", x.told(2, 2), 1);
        T.due("10 counted in the second ball", x.told(3, 2), 0);
        T.due("10 counted as it ended", x.told(0, 2), 0);
        x.press(2);
        T.due("10 stuck till it counts", x.told(2, 2), 0);
        x.press(0);
        T.due("10 not in the last two", x.told(1, 2), 1);
        T.due("10 in the third", x.told(2, 2), 0);
        T.due("10 in the second", x.told(3, 2), 0);
        T.due("7 the game is over", x.press(1), 0);
        T.due("10 did not count", x.told(1, 2), 1);
        x.begin();
        T.due("10 a new game", x.told(1, 2), 0);
    }

    private static void coils() {
        SilverBall x = Tally.playing("switch a 0; coil c 3; coil d 0; mode m 0; on a: fire c, fire d, fire c; end");
        T.due("11 never", x.coil(0, 1), NONE);
        T.due("11 does not wait", x.coil(0, 2), NONE);
        x.press(0);
        T.due("11 waits once", x.coil(0, 2), 0);
        T.due("11 waits behind it", x.coil(1, 2), 1);
        T.due("8 both", x.ticks(1), 2);
        x.press(0);
        T.due("8 one rests", x.ticks(1), 1);
        x.press(0);
        T.due("11 the one that rests came first", x.coil(0, 2), 0);
        T.due("11 behind it", x.coil(1, 2), 1);
        T.due("8 one still rests", x.ticks(1), 1);
        T.due("11 last", x.coil(0, 1), 1);
        T.due("8 rested", x.ticks(1), 1);
        T.due("11 last, three ticks on", x.coil(0, 1), 4);
        T.due("11 how often", x.coil(0, 0), 2);
        T.due("11 how often the other", x.coil(1, 0), 3);
        T.due("11 what 3", x.coil(0, 3), NONE);
        T.due("11 what -1", x.coil(0, -1), NONE);
        T.due("11 no coil", x.coil(2, 0), NONE);
        T.due("11 below 0", x.coil(-1, 0), NONE);
        Tally.read(x, "coil c 3;");
        T.due("11 no game", x.coil(0, 0), NONE);
    }

    private static void apartCoils() {
        SilverBall x = Tally.playing("coil a 0; coil b 0; coil c 0; coil d 2; apart a b; apart c b; apart d a;"
                + "mode m 0; on begin: fire a, fire b, fire c, fire d; end");
        T.due("8 a and c", x.ticks(1), 2);
        T.due("11 b waits first", x.coil(1, 2), 0);
        T.due("11 d behind it", x.coil(3, 2), 1);
        T.due("8 b and d", x.ticks(1), 2);
        T.due("11 none waits", x.coil(3, 2), NONE);
        x = Tally.playing("switch s 0; coil a 0; coil b 0; coil c 0; apart a b; apart a c; mode m 0;"
                + "on s: fire b, fire a; on s: score 1; end");
        x.press(0);
        T.due("7 a fire is no hold", x.score(), 1);
        T.due("8 apart from two", x.ticks(1), 1);
        x = Tally.playing("switch s 0; switch out 0; coil a 0; coil b 2; apart a b; mode m 0;"
                + "on begin: fire b; on s: fire b, fire a; on out: drain; end");
        x.ticks(1);
        x.press(0);
        T.due("8 one that rests keeps none back", x.ticks(1), 1);
        x.press(0);
        T.due("8 the one ahead fires", x.ticks(1), 1);
        T.due("11 it is b", x.coil(1, 1), 3);
        x.press(1);
        x.press(1);
        x.press(1);
        T.due("18 the game is over", x.count(7), 0);
        T.due("8 coils fire behind the game's end", x.ticks(1), 1);
        T.due("11 at its tick", x.coil(0, 1), 4);
    }

    private static void lamps() {
        String heads = "switch a 2; switch b 0; switch out 0; lamp l a; lamp k b; var v 0;";
        SilverBall x = Tally.playing(heads + "mode m 0; on a if v == 0: score 1; on b: set v 1, hold; end");
        T.due("12 lit", x.lamp(0), 1);
        T.due("12 no act that counts", x.lamp(1), 0);
        x.press(0);
        T.due("12 the bounce does not matter", x.lamp(0), 1);
        x.press(1);
        T.due("12 its cond does not hold", x.lamp(0), 0);
        T.due("12 no lamp", x.lamp(2), NONE);
        T.due("12 below 0", x.lamp(-1), NONE);
        T.due("12 asking changes nothing", x.score(), 1);
        x = Tally.playing(heads + "mode m 0; on a: start n; on b: serve; end mode n 1; on a: hold; end");
        T.due("12 start", x.lamp(0), 1);
        T.due("12 serve", x.lamp(1), 1);
        x.press(0);
        T.due("12 held by a mode ahead", x.lamp(0), 0);
        x = Tally.playing(heads + "mode m 0; on a: hold; on a: score 1; end");
        T.due("12 held by a rule ahead", x.lamp(0), 0);
        x = Tally.playing(heads + "mode m 1; on a: set v 1; on a if v == 1: score 1; on b: hold, score 1;"
                + "on out: drain, drain; end");
        T.due("12 nothing is done", x.lamp(0), 0);
        T.due("12 the rule that holds counts too", x.lamp(1), 1);
        x = Tally.playing(heads + "mode m 1; on a if v == 1: hold; on a: leave; on a: score 1; on out: drain; end"
                + " mode n 0; on b: score 1; end");
        T.due("12 a hold whose cond does not hold, a leave", x.lamp(0), 1);
        T.due("12 a mode that is off", x.lamp(1), 0);
        x.press(2);
        x.press(2);
        T.due("12 the third ball", x.lamp(0), 1);
        x.press(2);
        T.due("12 the game is over", x.lamp(0), 0);
        x = Tally.playing(heads + "mode m 1; on a: score 1; on b: tilt; on out: drain; end");
        x.press(1);
        T.due("12 tilted", x.lamp(0), 0);
        x.press(2);
        T.due("12 no longer", x.lamp(0), 1);
        Tally.read(x, heads);
        T.due("12 no game", x.lamp(0), NONE);
    }

    private static void values() {
        SilverBall x = Tally.playing("switch a 0; var v 12; var w 0; mode m 0; on a: set w v + w, set v -1; end");
        T.due("13 first", x.value(0), 12);
        x.press(0);
        T.due("13 set", x.value(1), 12);
        T.due("13 set below 0", x.value(0), -1);
        T.due("13 none such", x.value(2), 0);
        T.due("13 below 0", x.value(-1), 0);
        Tally.read(x, "var v 12;");
        T.due("13 no game", x.value(0), 0);
    }

    private static void sums() {
        due("1 + 2 * 3", 7);
        due("-2 * 3 + 10", 4);
        due("10 - 2 - 3", 5);
        due("(1 + 2) * (3 - 5)", -6);
        due("2 * (-(1 + 1) * 3) - 1", -13);
        due("-(-(-((-5))))", 5);
        due("((((((6))))))", 6);
        due("(3) - 1", 2);
        due("5 + (1 + 1)", 7);
        due("5 - (1 + 1) * (2 - 3) - 1", 6);
        due("2 * (3) - (1) - 1", 4);
        due("balls * 100 + left", 104);
        due("00012", 12);
        due("99999 * 99999", 1409865409);
        due("-99999 * 99999 - 99999 * 9999", -1409865409 - 999890001);
        due("65536 * 65536", 0);
        dueHolds("1 == 1", true);
        dueHolds("1 == 2", false);
        dueHolds("1 != 2", true);
        dueHolds("2 != 2", false);
        dueHolds("1 < 2", true);
        dueHolds("2 < 2", false);
        dueHolds("2 <= 2", true);
        dueHolds("3 <= 2", false);
        dueHolds("-1 < 0 and 0 < 1", true);
        dueHolds("1 < 0 and 0 < 1", false);
        dueHolds("0 < 1 and 1 < 0", false);
        dueHolds("0<1 and 0<1 and 1<0", false);
        dueHolds("(1 + 1) * 2 == 2 + 2", true);
        dueHolds("left - 1 == 3 and balls == 1", true);
    }

    private static void due(String sum, int want) {
        SilverBall x = Tally.playing("var v 0; mode m 0 time 4; on begin: set v " + sum + "; end");
        T.due("13 " + sum, x.value(0), want);
    }

    private static void dueHolds(String cond, boolean want) {
        SilverBall x = Tally.playing("mode m 0 time 4; on begin if " + cond + ": score 1; end");
        T.due("7 " + cond, x.score(), want ? 1 : 0);
    }

    private static void modes() {
        SilverBall x = new SilverBall();
        Tally.read(x, "switch a 0; mode m 7; on a: start n; end mode n 99999 time 5; on begin: score 3; end");
        T.due("14 rank without a game", x.mode(1, 3), 99999);
        T.due("14 on without a game", x.mode(0, 0), NONE);
        T.due("14 time without a game", x.mode(0, 1), NONE);
        T.due("14 starts without a game", x.mode(0, 2), NONE);
        x.begin();
        T.due("14 mode 0 is on", x.mode(0, 0), 1);
        T.due("14 it has no time", x.mode(0, 1), 0);
        T.due("14 off", x.mode(1, 0), 0);
        T.due("14 no time left of one that is off", x.mode(1, 1), 0);
        x.press(0);
        x.ticks(2);
        T.due("14 on", x.mode(1, 0), 1);
        T.due("14 no rules on begin of one that is on", x.score(), 3);
        T.due("14 time left", x.mode(1, 1), 3);
        x.press(0);
        T.due("14 begins anew", x.mode(1, 1), 5);
        T.due("14 without its rules on begin", x.score(), 3);
        T.due("14 started once", x.mode(1, 2), 1);
        x.ticks(5);
        T.due("14 left", x.mode(1, 0), 0);
        x.press(0);
        T.due("14 started again", x.mode(1, 2), 2);
        T.due("14 what 4", x.mode(0, 4), NONE);
        T.due("14 what -1", x.mode(0, -1), NONE);
        T.due("14 no mode", x.mode(2, 3), NONE);
        T.due("14 below 0", x.mode(-1, 0), NONE);
    }

    private static void orderOfModes() {
        SilverBall x = Tally.playing("switch a 0; var v 0; mode m 5; on begin: start n, start o, start p;"
                + "on a: set v v * 10 + 1; end mode n 9; on a: set v v * 10 + 2; end"
                + " mode o 5; on a: set v v * 10 + 3; end mode p 7; on a: set v v * 10 + 4; end");
        x.press(0);
        T.due("7 by rank, then by number", x.value(0), 2413);
    }

    private static void modeThatGoesOffMeanwhile() {
        SilverBall x = Tally.playing("switch a 0; switch b 0; var v 0; mode m 0; on begin: start n;"
                + "on a: set v v * 10 + 1; on b: start n; end"
                + " mode n 5; on a: leave, set v v * 10 + 2, start n, set v v * 10 + 3; on a: set v 99; end");
        x.press(0);
        T.due("7 the acts of the rule, no further rule, the next mode", x.value(0), 231);
        T.due("14 on again", x.mode(1, 0), 1);
        x = Tally.playing("switch a 0; var v 0; mode m 0; on begin: start n, start o; on a: set v v * 10 + 1; end"
                + " mode n 5; on a: tilt, start o; end mode o 3; on a: set v v * 10 + 2; end"
                + " mode p 2; on a: set v v * 10 + 3; end");
        x.press(0);
        T.due("7 off and on again is left out", x.value(0), 1);
        x.press(0);
        T.due("7 now it is on, and n is off", x.value(0), 121);
        x = Tally.playing("switch a 0; var v 0; mode m 5; on a: start n; end mode n 0; on a: set v v + 1; end");
        x.press(0);
        T.due("7 one that went on meanwhile", x.value(0), 0);
        x.press(0);
        T.due("7 was on when it came", x.value(0), 1);
        x = Tally.playing("switch a 0; var v 0; mode m 0; on a if v == 0: set v 1; on a if v == 1: set v 2;"
                + "on a if v == 1: set v 3; end");
        x.press(0);
        T.due("7 conds when it is their turn", x.value(0), 2);
    }

    private static void hold() {
        SilverBall x = Tally.playing("switch a 0; switch b 0; var v 0; mode m 0; on begin: start n;"
                + "on a: set v v * 10 + 1; on b: set v v * 10 + 5; end mode n 1;"
                + "on a: set v v * 10 + 2, hold, set v v * 10 + 3; on a: set v v * 10 + 4;"
                + "on b: start o; end mode o 0; on begin: hold; on begin: leave; on stop: hold; end");
        x.press(0);
        T.due("7 held behind the acts of the rule", x.value(0), 23);
        T.due("7 a hold is no drain", x.count(7), 1);
        x.press(1);
        T.due("7 hold on begin, on stop does nothing", x.value(0), 235);
        x = Tally.playing("switch a 0; var v 0; mode m 0; on a: hold, start n; on a: set v 99; end"
                + " mode n 0; on begin: set v v + 1; on begin: set v v + 1; end");
        x.press(0);
        T.due("7 rules on begin behind a hold", x.value(0), 2);
    }

    private static void rulesOnBeginAndStop() {
        SilverBall x = Tally.playing("switch a 0; var v 0; var w 0; mode m 0; on a: start n, set v v * 10 + 9; end"
                + " mode n 0; on begin if w == 0: set w 1, set v v * 10 + 1, leave, set v v * 10 + 2;"
                + "on begin: set v v * 10 + 5;"
                + "on stop: set v v * 10 + 3, start n; on stop: set v v * 10 + 4; end");
        x.press(0);
        // begin: 1, leave: stop 3, start: begin 5, stop 4; then 2, no further rule on begin, 9
        T.due("7 begin and stop within one another", x.value(0), 135429);
        x = Tally.playing("switch a 0; mode m 0; on a: leave, leave; on stop: score 1; end");
        x.press(0);
        T.due("7 leave of one that is off", x.score(), 1);
        T.due("14 mode 0 goes off", x.mode(0, 0), 0);
        x = Tally.playing("switch a 0; var v 9; mode m 0 time 5; on a: leave, set v left; end");
        x.press(0);
        T.due("7 no time left of one that is off", x.value(0), 0);
    }

    private static void within() {
        StringBuilder text = new StringBuilder("switch a 0; mode m 0; on a: start n1; end");
        for (int i = 1; i <= 11; i++) {
            text.append(" mode n").append(i).append(" 0; on begin: score 1");
            text.append(i < 11 ? ", start n" + (i + 1) : "").append("; end");
        }
        SilverBall x = Tally.playing(text.toString());
        x.press(0);
        T.due("7 eight within one another", x.score(), 8);
        T.due("14 the ninth goes on all the same", x.mode(9, 0), 1);
        T.due("14 the tenth not", x.mode(10, 0), 0);
        x = Tally.playing(text.toString().replace("on a:", "on begin:"));
        T.due("6 rules on begin of mode 0 are the first of eight", x.score(), 7);
        x = Tally.playing("switch a 0; mode m 0; on a: start n; end mode n 0; on begin: leave; on stop: start n; end");
        x.press(0);
        T.due("14 on and off within one another", x.mode(1, 2), 5);
        T.due("14 on at last", x.mode(1, 0), 1);
        T.due("18 not endless", x.count(12), 0);
    }

    private static void timeOfModes() {
        SilverBall x = Tally.playing("var v 0; mode m 0 time 3; on begin: start n; on stop: set v v * 10 + left + 1;"
                + "end mode n 1 time 2; on begin: set v left; on stop: set v v * 10 + 5; end");
        T.due("14 its time", x.value(0), 2);
        x.ticks(1);
        T.due("14 one less", x.mode(1, 1), 1);
        x.ticks(1);
        T.due("14 it leaves at 0", x.value(0), 25);
        x.ticks(1);
        T.due("14 mode 0 leaves too", x.value(0), 251);
        x.ticks(5);
        T.due("14 once", x.value(0), 251);
        x = Tally.playing("mode m 0; on begin: start a, start b, start c, start d; end"
                + " mode a 9 time 2; on stop: start b, tilt, start c, start e; end mode b 5 time 4; end"
                + " mode c 4 time 4; end mode d 10 time 4; end mode e 3 time 4; end");
        x.ticks(2);
        T.due("14 ahead of it: one less, then off", x.mode(4, 0), 0);
        T.due("14 off meanwhile", x.mode(2, 0), 0);
        T.due("14 off and on again meanwhile", x.mode(3, 1), 4);
        T.due("14 on meanwhile", x.mode(5, 1), 4);
        x = Tally.playing("mode m 0; on begin: start a, start b, start c; end mode a 9 time 2; on stop: start b,"
                + "start c; end mode b 5 time 3; end mode c 9 time 7; end");
        x.ticks(2);
        T.due("14 begun anew, then one less", x.mode(2, 1), 2);
        T.due("14 of the same rank the lesser number ahead", x.mode(3, 1), 6);
        x = Tally.playing("switch a 0; mode m 0 time 50; on a: drain; end");
        x.press(0);
        x.press(0);
        x.ticks(10);
        x.press(0);
        x.ticks(10);
        T.due("8 no time goes by behind the game's end", x.mode(0, 1), 40);
        T.due("8 ticks do", x.count(9), 20);
    }

    /** Twelve acts a rule, so many rules on the switch. */
    private static String manyScores(String event, int rules) {
        StringBuilder text = new StringBuilder();
        for (int i = 0; i < rules; i++) {
            text.append("on ").append(event).append(":score 1").append(",score 1".repeat(11)).append(";");
        }
        return text.toString();
    }

    private static void endless() {
        String heads = "switch a 0; switch b 0; var v 0; mode m 0; on b: set v 1;";
        SilverBall x = Tally.playing(heads + manyScores("a", 16) + "on a: score 1, score 1, score 1, score 1, score 1,"
                + "score 1, score 1, score 1; on a if v == 1: drain; end");
        x.press(0);
        T.due("7 two hundred acts", x.score(), 200);
        T.due("18 not endless", x.count(12), 0);
        x.press(1);
        x.press(0);
        T.due("7 no more", x.score(), 400);
        T.due("18 endless", x.count(12), 1);
        T.due("7 the drain was not done", x.count(8), 1);
        x.press(1);
        T.due("18 endless from then on", x.count(12), 1);
        T.due("16 the same again", x.again(), 400);
        x.begin();
        T.due("18 a new game is not", x.count(12), 0);
        x = Tally.playing("mode m 0;" + manyScores("begin", 17) + "end");
        T.due("6 two hundred acts on begin", x.score(), 200);
        T.due("18 endless by begin", x.count(12), 1);
    }

    private static void endlessTick() {
        SilverBall x = Tally.playing("coil c 0; mode m 0; on begin: start n, start o, start p, fire c; end"
                + " mode n 5 time 2;" + manyScores("stop", 17) + "end mode o 3 time 2; on stop: score 1000; end"
                + " mode p 2 time 3; end");
        x.ticks(1);
        T.due("9 nothing yet", x.score(), 0);
        x.ticks(1);
        T.due("9 two hundred acts of a tick", x.score(), 200);
        T.due("14 time goes by as ever", x.mode(2, 0), 0);
        T.due("14 for all", x.mode(3, 1), 1);
        T.due("18 endless", x.count(12), 1);
        x = Tally.playing("coil c 0; switch a 0; mode m 0; on a: start n; end mode n 5 time 2; on begin: fire c;"
                + manyScores("stop", 17) + "end");
        x.ticks(1);
        x.press(0);
        T.due("8 coils fire", x.ticks(2), 1);
    }

    private static void ballsOver() {
        SilverBall x = Tally.playing("switch out 0; switch both 0; switch t 0; var v 0; mode m 0; on begin: start n;"
                + "on out: drain; on both: drain, serve, score 1; on t: start n, tilt, start n; on stop: score 50; end"
                + " mode n 0; on stop: score 100; on out: set v v + 1; end");
        x.press(1);
        T.due("18 drained and served in one press", x.count(7), 1);
        x.press(0);
        T.due("18 the second ball", x.count(7), 2);
        T.due("18 served", x.count(8), 1);
        T.due("9 no rules on stop", x.score(), 1);
        T.due("14 mode n is off", x.mode(1, 0), 0);
        T.due("14 mode 0 is not", x.mode(0, 0), 1);
        T.due("13 n had the press first", x.value(0), 1);
        x.press(2);
        T.due("18 tilted", x.count(13), 1);
        T.due("14 started behind the tilt", x.mode(1, 0), 1);
        x.press(0);
        T.due("18 tilt ends with the ball", x.count(13), 0);
        x.press(0);
        T.due("18 over", x.count(7), 0);
        T.due("18 none in play", x.count(8), 0);
        T.due("7 counts no more", x.press(1), 0);
        T.due("9 the score stays", x.score(), 1);
        T.due("10 it was pressed all the same", x.told(1, 1), 2);
        T.due("18 it is in the log", x.count(14), 6);
        x = Tally.playing("mode m 0 time 2; on stop: drain; end");
        x.ticks(2);
        T.due("18 over by a tick", x.count(7), 2);
        x = Tally.playing("switch a 0; mode m 0; on a: serve, serve, serve, score balls; end");
        x.press(0);
        T.due("18 three in play at most", x.count(8), 3);
        x = Tally.playing("switch a 0; mode m 0; on a: drain, drain, score balls + 5, serve; end");
        x.press(0);
        T.due("18 none less than none", x.count(8), 1);
        T.due("9 balls", x.score(), 5);
    }

    private static void tilt() {
        SilverBall x = Tally.playing("switch a 0; switch t 0; mode m 0; on begin: start n, start o; on a: score 5;"
                + "on t: score 10, tilt, score 100, score -3; on stop: score 7; end"
                + " mode n 0; on stop: score 1000; on t: score 500; end mode o 0 time 9; on stop: score 2000; end");
        x.press(1);
        T.due("9 a tilted ball scores nothing", x.score(), 10);
        T.due("14 n is off", x.mode(1, 0), 0);
        T.due("14 o is off", x.mode(2, 0), 0);
        T.due("14 without time", x.mode(2, 1), 0);
        T.due("14 mode 0 is on", x.mode(0, 0), 1);
        x.press(0);
        T.due("9 nor later", x.score(), 10);
    }

    private static void layouts() {
        String text = "switch a 0; switch b 0; switch s 0; switch d 0; place p; place q; place r;"
                + "way p q by a; way p r by a; way q r by b; way r p by b; mode m 0; on s: serve; on d: drain; end";
        SilverBall x = Tally.playing(text);
        T.due("18 one layout", x.count(10), 1);
        T.due("15 at place 0", x.balls(0, false), 1);
        T.due("15 not elsewhere", x.balls(1, true), 0);
        x.press(0);
        T.due("18 q or r", x.count(10), 2);
        T.due("15 at most at q", x.balls(1, true), 1);
        T.due("15 at least at q", x.balls(1, false), 0);
        T.due("15 none at p", x.balls(0, true), 0);
        x.press(2);
        T.due("18 pq or pr", x.count(10), 2);
        T.due("15 one at p", x.balls(0, false), 1);
        x.press(1);
        T.due("18 pr or pp", x.count(10), 2);
        T.due("15 two at p", x.balls(0, true), 2);
        x.press(2);
        T.due("18 ppr or ppp", x.count(10), 2);
        T.due("15 three at p", x.balls(0, true), 3);
        x.press(2);
        T.due("18 with three nothing", x.count(10), 2);
        x.press(3);
        T.due("18 pr or pp again", x.count(10), 2);
        x.press(3);
        T.due("18 p or r", x.count(10), 2);
        x.press(3);
        T.due("18 the next ball", x.count(10), 1);
        T.due("15 it is at p", x.balls(0, false), 1);
        T.due("15 no place", x.balls(3, true), NONE);
        T.due("15 below 0", x.balls(-1, false), NONE);
        x.press(0);
        x.press(2);
        x.press(3);
        T.due("18 from the last place too", x.count(10), 3);
        x.press(3);
        x.press(3);
        T.due("18 over: the layout without a ball", x.count(10), 1);
        T.due("15 over", x.balls(0, true), 0);
        Tally.read(x, text);
        T.due("15 no game", x.balls(0, true), NONE);
        x = Tally.playing(text.replace("on d", "on a: serve; on d"));
        x.press(0);
        T.due("18 the ball goes ahead of the acts", x.balls(0, false), 1);
        T.due("18 so none is lost", x.count(11), 0);
    }

    private static void silentWays() {
        SilverBall x = Tally.playing("switch a 0; switch d 0; place p; place q; place r; place t; way q r; way p q;"
                + "way r t by a; way t q; mode m 0; on begin: serve; on d: drain; end");
        T.due("18 two balls at p, q, r", x.count(10), 6);
        T.due("15 none at t", x.balls(3, true), 0);
        x.press(0);
        T.due("18 one went from r to t, and on", x.count(10), 8);
        T.due("15 one at p at most", x.balls(0, true), 1);
        x.press(1);
        T.due("18 one went away", x.count(10), 4);
        x = Tally.playing("switch s 0; place a; place b; place c; place d; place e; place f; place g; place h;"
                + "way a b; way b c; way c d; way d e; way e f; way f g; way g h; mode m 0; on s: serve; end");
        T.due("18 eight layouts of one ball", x.count(10), 8);
        x.press(0);
        T.due("18 thirty-six of two", x.count(10), 36);
        x.press(0);
        T.due("18 a hundred and twenty of three", x.count(10), 120);
        T.due("15 three at the last", x.balls(7, true), 3);
    }

    private static void lost() {
        SilverBall x = Tally.playing("switch a 0; switch s 0; place p; place q; place r; way q r by a; mode m 0;"
                + "on s: serve; end");
        T.due("18 not lost", x.count(11), 0);
        x.press(0);
        T.due("18 lost", x.count(11), 1);
        T.due("18 all layouts of one ball", x.count(10), 3);
        x.press(0);
        T.due("18 lost no more", x.count(11), 1);
        T.due("18 it is at r", x.count(10), 1);
        x.press(1);
        x.press(0);
        T.due("18 lost again", x.count(11), 2);
        T.due("18 all layouts of two balls", x.count(10), 6);
        T.due("15 both at q", x.balls(1, true), 2);
        x.begin();
        T.due("18 a new game", x.count(11), 0);
        x = Tally.playing("switch a 0;");
        x.press(0);
        T.due("18 without places none is lost", x.count(11), 0);
        T.due("18 nor known", x.count(10), 0);
    }

    private static void again() {
        SilverBall x = Tally.playing("switch a 3; switch d 0; var v 1; mode m 0; on begin: start n;"
                + "on a: score v * 10, set v v + 1, start n; on d: drain; end mode n 1 time 4; on stop: score v; end");
        T.due("16 nothing yet", x.again(), 0);
        x.press(0);
        x.press(0);
        x.ticks(3);
        x.press(0);
        x.ticks(100);
        x.press(1);
        x.press(0);
        T.due("9 score", x.score(), 10 + 20 + 3 + 30);
        T.due("16 again", x.again(), 63);
        T.due("16 the game stays", x.count(9), 103);
        T.due("16 its log stays", x.count(14), 5);
        T.due("16 its modes stay", x.mode(1, 1), 4);
        x.ticks(4);
        T.due("16 ticks behind the last press", x.again(), 67);
        x.begin();
        T.due("16 a new log", x.again(), 0);
    }

    private static void ring() {
        dueRing("mode m 0; on begin: start n; end mode n 0; on begin: start o; end mode o 0; on begin: start n; end", 1);
        dueRing("mode m 0; on begin: start n; end mode n 0; on begin: start m; end", 0);
        dueRing("mode m 0; end mode n 0; on begin if 1 == 0: leave; on stop: start n; end", 1);
        dueRing("mode m 0; end mode n 0; on stop: start n; end", NONE);
        dueRing("mode m 0; on begin: leave; on stop: leave; end", NONE);
        dueRing("switch a 0; mode m 0; on a: start m; end", NONE);
        dueRing("mode m 0; on begin: start n; end mode n 0; on begin: leave; on stop: start m; end", 0);
        dueRing("mode m 0; on begin: start n; end mode n 0; on stop: start m; end", NONE);
        dueRing("mode m 0; on begin: start m; end", 0);
        dueRing("mode m 0; on begin: start o, start n; end mode n 0; on begin: start m; end mode o 0; end", 0);
        dueRing("switch a 0; mode m 0; on begin: start n; on a: leave; on stop: score 1; end mode n 0; on begin: score 1;"
                + "on a: start m; end", NONE);
        dueRing("switch a 0; mode m 0; on begin: start n; end mode n 0; on begin: leave; on stop: start o;"
                + "end mode o 0; on begin: leave; on stop: start n; end", 1);
        dueRing("", NONE);
        SilverBall x = new SilverBall();
        Tally.read(x, "mode m 0; on begin: score 1, start m; end");
        Tally.read(x, "mode");
        T.due("17 the table stays behind a fault", x.ring(), 0);
    }

    private static void dueRing(String text, int want) {
        SilverBall x = new SilverBall();
        T.due("4 " + text, Tally.read(x, text), 0);
        T.due("17 " + text, x.ring(), want);
    }

    private static void count() {
        String text = "switch a 0; switch b 0; switch c 0; switch d 0; coil e 0; coil f 0; coil g 0; apart e f; lamp h a;"
                + "lamp i a; place j; place k; place l; place m; place n; way j k; var o 0; var p 0; var q 0; var r 0;"
                + "var s 0; var t 0; mode u 0; on a: drain; on b: tilt; on stop: hold; end mode v 0; on a: hold; end";
        SilverBall x = new SilverBall();
        Tally.read(x, text);
        int[] want = {4, 3, 2, 5, 6, 2, 4, 0, 0, 0, 0, 0, 0, 0, 0, 0};
        for (int what = 0; what < want.length; what++) {
            T.due("18 count " + what, x.count(what), want[what]);
        }
        T.due("18 count -1", x.count(-1), NONE);
        T.due("18 count 16", x.count(16), NONE);
        T.due("18 far off", x.count(Integer.MAX_VALUE), NONE);
        T.due("18 far below", x.count(Integer.MIN_VALUE), NONE);
        x.begin();
        x.press(1);
        x.ticks(7);
        x.feed(0, 0, 0, 0, 0);
        int[] then = {1, 1, 7, 2, 0, 0, 1, 1, 20};
        for (int what = 7; what <= 15; what++) {
            T.due("18 in the game " + what, x.count(what), then[what - 7]);
        }
        x.read();
        T.due("18 a fault", x.count(9), 7);
        x.read();
        T.due("18 no game any more", x.count(9), 0);
        T.due("18 no table of then", x.count(0), 0);
    }

    /** All that a game left is away when the next one begins. */
    private static void secondGame() {
        SilverBall x = Tally.playing("switch a 0; switch out 0; switch t 0; coil c 50; coil d 50; place p; place q;"
                + "way p q by a; mode m 0 time 9; on a: start n, fire c, score 2; on out: drain; on t: tilt; end"
                + " mode n 0 time 4; on stop: score 1; end");
        x.press(0);
        x.ticks(1);
        x.press(0);
        x.press(1);
        x.press(1);
        x.press(0);
        x.press(2);
        T.due("18 lost", x.count(11), 1);
        T.due("10 stuck", x.told(2, 2), 0);
        x.begin();
        int[] want = {1, 1, 0, 1, 0, 0, 0, 0};
        for (int i = 0; i < want.length; i++) {
            T.due("6 count " + (i + 7), x.count(i + 7), want[i]);
        }
        for (int s = 0; s < 3; s++) {
            T.due("6 counted", x.told(s, 0), 0);
            T.due("6 pressed", x.told(s, 1), 0);
            T.due("6 stuck", x.told(s, 2), 0);
        }
        T.due("6 fired", x.coil(0, 0), 0);
        T.due("6 fired last", x.coil(0, 1), NONE);
        T.due("6 waits", x.coil(0, 2), NONE);
        T.due("6 n is off", x.mode(1, 0), 0);
        T.due("6 its time", x.mode(1, 1), 0);
        T.due("6 its starts", x.mode(1, 2), 0);
        T.due("6 m is on", x.mode(0, 0), 1);
        T.due("6 its time begins anew", x.mode(0, 1), 9);
        T.due("6 it started", x.mode(0, 2), 1);
        T.due("8 no coil is left from then", x.ticks(1), 0);
        x.press(1);
        x.press(1);
        T.due("10 a is stuck though it counted in the game ahead", x.told(0, 2), 1);
        x.press(0);
        T.due("9 not tilted", x.score(), 2);
        T.due("8 the coil has no rest from then", x.ticks(1), 1);
    }

    /** All that a table told is away when the next one is read. */
    private static void secondTable() {
        SilverBall x = new SilverBall();
        StringBuilder full = new StringBuilder();
        for (int i = 0; i < 8; i++) {
            full.append("switch s" + i + " 0; coil c" + i + " 9; place p" + i + "; lamp l" + i + " s0; var v" + i + " 0;"
                    + (i > 0 ? "apart c0 c" + i + "; way p0 p" + i + ";" : ""));
        }
        for (int i = 0; i < 6; i++) {
            full.append("mode m" + i + " 0 time 5; on begin: start m" + (i + 1) % 6 + "; on s0: score 1, hold; end ");
        }
        T.due("4 a full table", Tally.read(x, full.toString()), 0);
        T.due("17 its ring", x.ring(), 0);
        T.due("4 the same again", Tally.read(x, full.toString()), 0);
        x.begin();
        x.ticks(3);
        String small = "switch s0 0; coil c0 0; coil c1 0; place p0; place p1; lamp l0 s0; mode m0 1;"
                + "on begin: fire c0, fire c1; on s0: leave; end mode m1 2; end";
        T.due("4 a small table", Tally.read(x, small), 0);
        int[] want = {1, 2, 1, 2, 0, 2, 2};
        for (int i = 0; i < want.length; i++) {
            T.due("18 count " + i, x.count(i), want[i]);
        }
        T.due("17 no ring", x.ring(), NONE);
        x.begin();
        T.due("8 not apart", x.ticks(1), 2);
        T.due("15 no way", x.balls(1, true), 0);
        T.due("12 no act that counts", x.lamp(0), 0);
        T.due("14 no time", x.mode(0, 1), 0);
        T.due("14 its rank", x.mode(1, 3), 2);
        T.due("13 no var", x.value(0), 0);
        T.due("4 a table without holds", Tally.read(x, "switch s 0; lamp l s; mode m 0; on begin: score 1;"
                + "on s: leave; on s: serve; end"), 0);
        x.begin();
        T.due("12 no hold of then", x.lamp(0), 1);
        T.due("4 names of then are not told", Tally.read(x, "lamp l s0;"), 4);
        T.due("4 nor modes", Tally.read(x, "mode a 0; on begin: start m1; end"), 4);
    }

    /** 600 presses are more than an object is used for; the log has its end all the same. */
    private static void log() {
        SilverBall x = Tally.playing("switch a 0; mode m 0; on a: score 1; end");
        for (int i = 0; i < 600; i++) {
            x.press(0);
        }
        T.due("18 presses in the log", x.count(14), 600);
        T.due("7 one more", x.press(0), NONE);
        T.due("9 did nothing", x.score(), 600);
        T.due("10 was not taken", x.told(0, 1), 600);
        T.due("16 again", x.again(), 600);
    }
}
