/**
 * The edges that the document's section II (A GAME) names, sentence by sentence: presses, balls, layouts, modes,
 * acts, ticks, coils and lamps. The answers are worked out by hand.
 */
public final class GameEdgeTest {
    private static final Tally T = new Tally("GameEdgeTest");

    private GameEdgeTest() {
    }

    public static void main(String[] args) {
        begin();
        bounce();
        stuck();
        placesOfBalls();
        silentWays();
        waysBySwitch();
        lost();
        orderOfModes();
        modesAsTheyWere();
        modeZeroGoesOff();
        turnOfRules();
        hold();
        score();
        set();
        start();
        leave();
        fire();
        serveAndDrain();
        tilt();
        rulesOnBegin();
        rulesOnStop();
        eightWithin();
        eightWithinInATick();
        twoHundredOfAPress();
        twoHundredOfATick();
        twoHundredOfABegin();
        lastOfTwoHundred();
        ballOver();
        ballOverByBeginAndTick();
        gameOver();
        ticksInOrder();
        timeOfModes();
        modesOfATick();
        rest();
        apart();
        leftAndBalls();
        lampActs();
        lampRules();
        lampStates();
        gameBehindGame();
        rels();
        sums();
        T.close();
    }

    private static String times(int n, String one) {
        return one.repeat(n);
    }

    // "TICKS go by from 0", "At its begin the SCORE is 0, VARS have their FIRST values, one ball is served, then MODE 0
    // (if there is one) starts."

    private static void begin() {
        SilverBall x = Tally.playing("switch s 0; var v 99999; var w 0;");
        T.due("begin without modes: ticks", x.count(9), 0);
        T.due("begin without modes: score", x.score(), 0);
        T.due("begin without modes: vars", x.value(0), 99999);
        T.due("begin without modes: a ball", x.count(7), 1);
        T.due("begin without modes: in play", x.count(8), 1);
        T.due("begin without modes: a press counts", x.press(0), 1);
        x = Tally.playing("var v 5; mode m 0; on begin: set v v * 10 + balls; end mode n 9; on begin: set v 7; end");
        T.due("begin: served ahead of mode 0's rules", x.value(0), 51);
        T.due("begin: mode 0 is on, whatever its rank", x.mode(0, 0), 1);
        T.due("begin: it started", x.mode(0, 2), 1);
        T.due("begin: no other", x.mode(1, 0), 0);
        T.due("begin: nor did that start", x.mode(1, 2), 0);
        x.begin();
        T.due("begin: from the first value again", x.value(0), 51);
        x = Tally.playing("switch s 0; mode m 0 time 9; on s: start n, score 4; end mode n 0 time 7; end");
        x.press(0);
        x.ticks(3);
        x.begin();
        T.due("begin: the mode that was on is off", x.mode(1, 0), 0);
        T.due("begin: no time is left of it", x.mode(1, 1), 0);
        T.due("begin: nor did it start", x.mode(1, 2), 0);
        T.due("begin: mode 0 has its whole time", x.mode(0, 1), 9);
        x.ticks(8);
        T.due("begin: which goes by once a tick", x.mode(0, 1), 1);
        x.ticks(1);
        T.due("begin: to 0", x.mode(0, 0), 0);
    }

    // "A PRESS of a SWITCH at a TICK COUNTS if none of it counted ahead, or the latest such was at least its BOUNCE
    // TICKS ago."

    private static void bounce() {
        SilverBall x = Tally.playing("switch a 3; switch b 1; switch c 0; switch d 99999;");
        T.due("bounce: the first at tick 0", x.press(0), 1);
        T.due("bounce: the same tick", x.press(0), 0);
        T.due("bounce 1: the first", x.press(1), 1);
        T.due("bounce 1: the same tick", x.press(1), 0);
        T.due("bounce 0: the first", x.press(2), 1);
        T.due("bounce 0: the same tick", x.press(2), 1);
        T.due("bounce 0: and again", x.press(2), 1);
        T.due("bounce 99999: the first", x.press(3), 1);
        x.ticks(1);
        T.due("bounce 1: the next tick", x.press(1), 1);
        T.due("bounce 3: the next tick", x.press(0), 0);
        x.ticks(1);
        T.due("bounce 3: one too early", x.press(0), 0);
        x.ticks(1);
        T.due("bounce 3: three ticks behind the one that counted", x.press(0), 1);
        x.ticks(2);
        T.due("bounce 3: anew behind that", x.press(0), 0);
        for (int i = 0; i < 49; i++) {
            x.ticks(100);
        }
        x.ticks(95);
        T.due("bounce 99999: at tick 5000", x.press(3), 0);
        x = Tally.playing("switch a 50; switch b 50;");
        x.ticks(1);
        T.due("bounce: the first, sooner than the bounce behind the begin", x.press(0), 1);
        T.due("bounce: of each switch by itself", x.press(1), 1);
    }

    // "Each SWITCH that did not count while the last two BALLS that are over were played is STUCK, from the end of the
    // second one on till it counts."

    private static void stuck() {
        SilverBall x = Tally.playing("switch out 0; switch a 0; switch b 0; switch c 9; mode m 0; on out: drain; end");
        T.due("stuck: no ball is over", x.told(1, 2), 0);
        x.press(1);
        x.press(3);
        x.press(0);
        T.due("stuck: one ball is over", x.told(2, 2), 0);
        x.press(2);
        x.press(2);
        T.due("stuck: c bounces", x.press(3), 0);
        x.press(0);
        T.due("stuck: a counted in the first of two", x.told(1, 2), 0);
        T.due("stuck: b counted in the second of two", x.told(2, 2), 0);
        T.due("stuck: c counted in the first of two", x.told(3, 2), 0);
        T.due("stuck: the switch that ended both", x.told(0, 2), 0);
        x.press(1);
        T.due("stuck: c bounces once more", x.press(3), 0);
        x.press(0);
        T.due("stuck: a counted in the third", x.told(1, 2), 0);
        T.due("stuck: b in the second", x.told(2, 2), 0);
        T.due("stuck: a press of c did not count in the last two", x.told(3, 2), 1);
        x = Tally.playing("switch a 0; switch out 0; mode m 0; on out: drain; end");
        x.press(1);
        x.press(1);
        T.due("stuck: the first of all switches", x.told(0, 2), 1);
        x.press(0);
        T.due("stuck: till it counts, in the third", x.told(0, 2), 0);
        x.press(1);
        x.begin();
        x.press(1);
        T.due("stuck: not in another game", x.told(0, 2), 0);
        x.press(1);
        T.due("stuck: till two are over there, whatever counted ahead", x.told(0, 2), 1);
        x = Tally.playing("switch out 0; switch a 0; switch b 0; mode m 0; on begin: drain; on out: drain; end");
        T.due("stuck: the first ball was over by the begin", x.count(7), 2);
        T.due("stuck: it is one alone", x.told(1, 2), 0);
        x.press(0);
        T.due("stuck: two are over", x.told(1, 2), 1);
        T.due("stuck: the one that counted is not", x.told(0, 2), 0);
        x.ticks(5);
        T.due("stuck: it stays so", x.told(1, 2), 1);
        x.press(1);
        T.due("stuck: till it counts", x.told(1, 2), 0);
        T.due("stuck: the other stays", x.told(2, 2), 1);
        x.press(0);
        T.due("stuck: it counted in the last one", x.told(1, 2), 0);
        T.due("stuck: the game is over, and it counted in none", x.told(2, 2), 1);
        T.due("stuck: a press that does not count", x.press(2), 0);
        T.due("stuck: frees none", x.told(2, 2), 1);
    }

    // "A ball that is served comes to PLACE 0; one that drains goes from anywhere where it can be."

    private static void placesOfBalls() {
        SilverBall x = Tally.playing("switch s 0; switch d 0; place p; mode m 0; on s: serve; on d: drain; end");
        T.due("one place: one layout", x.count(10), 1);
        T.due("one place: one ball", x.balls(0, false), 1);
        x.press(0);
        x.press(0);
        T.due("one place: one layout of three", x.count(10), 1);
        T.due("one place: three balls", x.balls(0, false), 3);
        x.press(0);
        T.due("one place: not four", x.balls(0, true), 3);
        x.press(1);
        T.due("one place: two balls", x.balls(0, true), 2);
        x = Tally.playing("switch a 0; switch s 0; switch d 0; place p; place q; way p q by a; mode m 0;"
                + "on s: serve; on d: drain; end");
        x.press(0);
        T.due("drain: the ball is at the last place", x.balls(1, false), 1);
        x.press(1);
        T.due("drain: one at each", x.count(10), 1);
        x.press(2);
        T.due("drain: from one or the other", x.count(10), 2);
        T.due("drain: none at the first, at least", x.balls(0, false), 0);
        T.due("drain: one at the first, at most", x.balls(0, true), 1);
        T.due("drain: none at the last, at least", x.balls(1, false), 0);
        T.due("drain: one at the last, at most", x.balls(1, true), 1);
        x.press(2);
        T.due("serve: the next ball is at the first place", x.balls(0, false), 1);
        x.press(1);
        x.press(2);
        T.due("drain: two at one place, one goes", x.balls(0, false), 1);
        T.due("drain: that is one layout", x.count(10), 1);
        x = Tally.playing("switch a 0; place p; place q; way p q by a; mode m 0; on a: drain, serve; end");
        x.press(0);
        T.due("serve: behind a drain to none, in one press", x.balls(0, false), 1);
        T.due("serve: no ball was over", x.count(7), 1);
    }

    // "Each silent WAY may be gone at any time, by any ball there."

    private static void silentWays() {
        SilverBall x = Tally.playing("switch s 0; switch d 0; place p; place q; way p q; way q p; mode m 0;"
                + "on s: serve; on d: drain; end");
        T.due("silent: there or back", x.count(10), 2);
        x.press(0);
        T.due("silent: two balls, each by itself", x.count(10), 3);
        T.due("silent: both", x.balls(1, true), 2);
        T.due("silent: neither", x.balls(1, false), 0);
        x.press(0);
        T.due("silent: three balls", x.count(10), 4);
        x.press(1);
        T.due("silent: two again", x.count(10), 3);
        x = Tally.playing("place p; place q; place r; place t; way r t; way q r; way p q;");
        T.due("silent: one behind another, whatever their order", x.count(10), 4);
        T.due("silent: to the last", x.balls(3, true), 1);
        x = Tally.playing("place p; place q; place r; way q r; way r q;");
        T.due("silent: none from where the ball is", x.count(10), 1);
        x = Tally.playing("switch s 0; place p; place q; way p q; mode m 0; on begin: serve, serve, drain; end");
        T.due("silent: behind serves and a drain of one begin", x.count(10), 3);
    }

    // "A PRESS that counts of a SWITCH by which there are WAYS: one ball went one of these (then silent ones again)."

    private static void waysBySwitch() {
        SilverBall x = Tally.playing("switch a 5; switch b 0; switch c 0; place p; place q; place r; way p q by a;"
                + "way q r by a; way r p by c;");
        x.press(0);
        T.due("way: from p to q", x.balls(1, false), 1);
        T.due("way: the press does not count", x.press(0), 0);
        T.due("way: so none went", x.balls(1, false), 1);
        x.press(1);
        T.due("way: by this switch there is none", x.balls(1, false), 1);
        T.due("way: none is lost", x.count(11), 0);
        x.ticks(5);
        x.press(0);
        T.due("way: from q to r", x.balls(2, false), 1);
        x.press(2);
        T.due("way: by the third switch", x.balls(0, false), 1);
        x = Tally.playing("switch a 0; switch s 0; place p; place q; place r; way p q by a; way q r by a; mode m 0;"
                + "on s: serve; end");
        x.press(0);
        x.press(1);
        x.press(0);
        T.due("way: one ball alone, of p and q: q and q, or p and r", x.count(10), 2);
        T.due("way: q has two at most", x.balls(1, true), 2);
        T.due("way: q has none at least", x.balls(1, false), 0);
        T.due("way: p has one at most", x.balls(0, true), 1);
        x = Tally.playing("switch a 0; place p; place q; place r; place t; way p q by a; way p r by a; way q t;");
        x.press(0);
        T.due("way: q or r, and then from q to t", x.count(10), 3);
        x = Tally.playing("switch a 0; place p; place q; place r; way p q; way q r by a;");
        T.due("way: p or q", x.count(10), 2);
        x.press(0);
        T.due("way: from q alone", x.count(10), 1);
        T.due("way: to r", x.balls(2, false), 1);
        T.due("way: that is not lost", x.count(11), 0);
    }

    // "If no LAYOUT can be then, that is LOST: it is counted, and all LAYOUTS of so many balls can be."

    private static void lost() {
        StringBuilder text = new StringBuilder("switch a 0; switch s 0;");
        for (int p = 0; p < 8; p++) {
            text.append("place p").append(p).append(';');
        }
        text.append("way p6 p7 by a; mode m 0; on s: serve; end");
        int[] all = {8, 36, 120};
        for (int balls = 1; balls <= 3; balls++) {
            SilverBall x = Tally.playing(text.toString());
            for (int i = 1; i < balls; i++) {
                x.press(1);
            }
            T.due("lost: none yet", x.count(11), 0);
            x.press(0);
            T.due("lost: counted", x.count(11), 1);
            T.due("lost: all layouts of " + balls, x.count(10), all[balls - 1]);
            for (int p = 0; p < 8; p++) {
                T.due("lost: all at one", x.balls(p, true), balls);
                T.due("lost: or none", x.balls(p, false), 0);
            }
            x.press(0);
            T.due("lost: not again, one can have gone", x.count(11), 1);
            T.due("lost: it came there", x.balls(7, false), 1);
        }
        SilverBall x = Tally.playing("switch a 0; switch s 0; place p; place q; way q p by a; mode m 0; on s: serve; end");
        x.press(1);
        x.press(1);
        x.press(0);
        T.due("lost: three balls at two places", x.count(10), 4);
        for (int i = 0; i < 4; i++) {
            x.press(0);
        }
        T.due("lost: three went, then it is lost again", x.count(11), 2);
        x = Tally.playing("switch a 0; mode m 0; on a: drain, serve; end");
        T.due("without places: no layouts", x.count(10), 0);
        x.press(0);
        T.due("lost: without places none", x.count(11), 0);
        T.due("lost: and no layouts", x.count(10), 0);
    }

    // "MODES that are ON have an order: the higher RANK ahead, of the same the lesser number."

    private static void orderOfModes() {
        SilverBall x = Tally.playing("switch a 0; var v 0; mode m 99999; on begin: start r, start q, start p, start o,"
                + "start n; on a: set v v * 10 + 1; end mode n 0; on a: set v v * 10 + 2; end"
                + " mode o 5; on a: set v v * 10 + 3; end mode p 5; on a: set v v * 10 + 4; end"
                + " mode q 6; on a: set v v * 10 + 5; end mode r 5; on a: set v v * 10 + 6; end");
        x.press(0);
        T.due("order: ranks 99999 6 5 5 5 0", x.value(0), 153462);
    }

    // "A PRESS that counts goes to them in this order, as they were ON when it came (one that went off meanwhile is
    // left out, ON again or not)"

    private static void modesAsTheyWere() {
        SilverBall x = Tally.playing("switch a 0; var v 0; mode m 5; on a: start n, start o; end"
                + " mode n 9; on a: set v v + 10; end mode o 1; on a: set v v + 1; end");
        x.press(0);
        T.due("as they were: none that went on meanwhile", x.value(0), 0);
        x.press(0);
        T.due("as they were: the next press goes to both", x.value(0), 11);
        x = Tally.playing("switch a 0; var v 0; mode m 5; on begin: start n, start o; on a: tilt, start n;"
                + "on a: set v v + 100; end"
                + " mode n 1; on a: set v v + 10; end mode o 1; on a: set v v + 1; end");
        x.press(0);
        T.due("as they were: none that went off, on again or not", x.value(0), 100);
        T.due("as they were: the one is on again", x.mode(1, 0), 1);
        T.due("as they were: the other is not", x.mode(2, 0), 0);
        x.press(0);
        T.due("as they were: mode 0 is not off by a tilt", x.value(0), 200);
        x = Tally.playing("switch a 0; var v 0; mode m 1; on begin: start n; on a: set v v + 1; end"
                + " mode n 5; on a: tilt; on a: set v v + 10; end");
        x.press(0);
        T.due("as they were: no further rule of one that tilted, but mode 0's", x.value(0), 1);
        x = Tally.playing("switch a 2; var v 0; mode m 1; on a: set v v + 1; end");
        x.press(0);
        x.press(0);
        T.due("as they were: a press that does not count goes to none", x.value(0), 1);
    }

    /** Mode 0 goes off by a leave alone, and is then left out like the others. */
    private static void modeZeroGoesOff() {
        SilverBall x = Tally.playing("switch a 0; switch b 0; switch c 0; var v 0; mode m 0; on begin: start n;"
                + "on a: leave, set v v * 10 + 1; on a: set v v * 10 + 2; on c: set v v * 10 + 3; end"
                + " mode n 1; on b: start m; end");
        x.press(0);
        T.due("mode 0 off: the acts behind leave, no further rule", x.value(0), 1);
        T.due("mode 0 off", x.mode(0, 0), 0);
        x.press(2);
        T.due("mode 0 off: no press goes to it", x.value(0), 1);
        x.press(1);
        T.due("mode 0 off: another one started it", x.mode(0, 0), 1);
        T.due("mode 0 off: for the second time", x.mode(0, 2), 2);
        x.press(2);
        T.due("mode 0 off: presses go to it again", x.value(0), 13);
        x = Tally.playing("switch a 0; var v 0; mode m 0; on a: leave, start m, set v v * 10 + 1;"
                + "on a: set v v * 10 + 2; end");
        x.press(0);
        T.due("mode 0 off and on: no further rule", x.value(0), 1);
        T.due("mode 0 off and on: it is on", x.mode(0, 0), 1);
        x = Tally.playing("switch a 0; switch d 0; mode m 0; on a: leave; on begin: score 1; on d: drain; end");
        x.press(0);
        T.due("mode 0 off: none drains the ball", x.press(1), 1);
        T.due("mode 0 off: so it is not over", x.count(7), 1);
    }

    // "of a MODE each RULE on that SWITCH, in order, whose COND holds when it is its turn, does its ACTS, one by one"

    private static void turnOfRules() {
        SilverBall x = Tally.playing("switch a 0; switch b 0; var v 0; mode m 0 time 9; on a: set v v * 10 + 1;"
                + "on b: set v 9; on a if v == 1: set v v * 10 + 2, serve; on a if balls < 2: set v 99;"
                + "on a if v == 12 and balls == 2 and left == 9: set v v * 10 + 3, leave, set v v * 10 + left; end");
        x.press(0);
        T.due("turn: each cond as all stands then", x.value(0), 1230);
        x = Tally.playing("switch a 0; var v 1; mode m 0; on a if v == 1 and v == 2: set v 3; on a if v != 1: set v 4;"
                + "on a if v < 1: set v 5; on a if v <= 0: set v 6; end");
        x.press(0);
        T.due("turn: no cond holds", x.value(0), 1);
    }

    // "A 'hold' done: behind the ACTS of its RULE no further RULE, no further MODE gets this PRESS (in a RULE on begin,
    // on stop it does nothing)."

    private static void hold() {
        SilverBall x = Tally.playing("switch a 0; switch b 0; var v 0; mode m 0; on begin: start n;"
                + "on a: set v v * 10 + 1; on b: set v v * 10 + 5; end"
                + " mode n 1; on a if v == 0: hold, set v v * 10 + 2; on a: set v v * 10 + 3; end");
        x.press(0);
        T.due("hold: its acts, no further rule, no further mode", x.value(0), 2);
        x.press(1);
        T.due("hold: of that press alone", x.value(0), 25);
        x.press(0);
        T.due("hold: not done, as its cond does not hold", x.value(0), 2531);
        x = Tally.playing("switch a 0; var v 0; mode m 1; on a: start n, set v v * 10 + 1; on a: set v v * 10 + 2; end"
                + " mode n 0; on begin: hold, set v v * 10 + 8; on begin: set v v * 10 + 9; end");
        x.press(0);
        T.due("hold on begin: further rules on begin, further rules of the press", x.value(0), 8912);
        x = Tally.playing("switch a 0; var v 0; mode m 0; on begin: start n; on a: set v v * 10 + 1; end"
                + " mode n 1; on a: leave, set v v * 10 + 2; on stop: hold; on stop: set v v * 10 + 3; end");
        x.press(0);
        T.due("hold on stop: further rules on stop, further modes", x.value(0), 321);
        x = Tally.playing("switch a 0; var v 0; mode m 0; on begin: start n; on a: set v v + 1; end"
                + " mode n 1; on a: hold, leave; on stop: set v v + 10; end");
        x.press(0);
        T.due("hold: and a leave behind it", x.value(0), 10);
        x.press(0);
        T.due("hold: not of the next press", x.value(0), 11);
        x = Tally.playing("switch a 0; var v 0; mode m 0 time 1; on stop: hold, start n; on a: set v v + 1; end"
                + " mode n 1; on begin: hold; on a: set v v + 10; end");
        x.ticks(1);
        x.press(0);
        T.due("hold: in a tick it does nothing", x.value(0), 10);
    }

    // "score: the SCORE becomes that much more (a long; no less than 0; a TILTED ball scores nothing)."

    private static void score() {
        SilverBall x = Tally.playing("switch a 0; switch b 0; switch c 0; switch d 0; switch e 0; mode m 0;"
                + "on a: score 99999 * 99999; on b: score 50000 * 50000; on c: score -1; on d: score 1; on e: score 0; end");
        x.press(0);
        T.due("score: an int that wrapped", x.score(), 1409865409L);
        x.press(0);
        T.due("score: more than an int holds", x.score(), 2819730818L);
        x.press(0);
        T.due("score: still more", x.score(), 4229596227L);
        x.press(1);
        T.due("score: an int that wrapped below 0", x.score(), 4229596227L - 1794967296L);
        x.press(1);
        T.due("score: more less", x.score(), 4229596227L - 2 * 1794967296L);
        x.press(1);
        T.due("score: no less than 0", x.score(), 0);
        x.press(2);
        T.due("score: one less than 0 is 0", x.score(), 0);
        x.press(3);
        T.due("score: one more", x.score(), 1);
        x.press(4);
        T.due("score: 0 more", x.score(), 1);
        x.press(2);
        T.due("score: to 0", x.score(), 0);
        x = Tally.playing("switch a 0; switch o 0; mode m 0; on a: score 9, tilt, score 100, score -3; on o: drain; end");
        x.press(0);
        T.due("score: tilted, nothing more and nothing less", x.score(), 9);
        x.press(0);
        T.due("score: nor by another press", x.score(), 9);
        x.press(1);
        x.press(0);
        T.due("score: the next ball scores", x.score(), 18);
    }

    // "set: a VAR, an int that wraps."

    private static void set() {
        String[] sums = {"65536 * 32768 - 1", "65536 * 32768", "-65536 * 32768", "-(65536 * 32768)", "65536 * 65535 + 65536",
            "-1", "-65536 * 32768 - 1", "(65536 * 32768 - 1) * 2", "0 - 99999"};
        int[] worth = {2147483647, -2147483648, -2147483648, -2147483648, 0, -1, 2147483647, -2, -99999};
        for (int i = 0; i < sums.length; i++) {
            SilverBall x = Tally.playing("var v 3; var w 8; mode m 0; on begin: set w " + sums[i] + "; end");
            T.due("set: " + sums[i], x.value(1), worth[i]);
            T.due("set: no other var", x.value(0), 3);
        }
        SilverBall x = Tally.playing("switch a 0; var v 0; var w 0; mode m 0; on a: set w 1; end mode n 0; end"
                + " mode o 0; end");
        x.press(0);
        T.due("set: starts no mode of that number", x.mode(1, 0), 0);
        x = Tally.playing("var v 1; mode m 0; on begin: tilt, set v v + 1, set v v * v; end");
        T.due("set: one behind the other, tilted or not", x.value(0), 4);
    }

    // "start: a MODE that is off goes ON (TIME left: its TIME), and does its RULES on begin; of one that is ON the TIME
    // left begins anew."

    private static void start() {
        SilverBall x = Tally.playing("switch a 0; var v 0; mode m 0; on a: start n; end"
                + " mode n 0 time 5; on begin: set v v * 10 + left, start n; on stop: set v 99; end");
        x.press(0);
        T.due("start: time left on begin", x.value(0), 5);
        T.due("start: within its own rules on begin it is on", x.mode(1, 2), 1);
        x.ticks(3);
        T.due("start: three less", x.mode(1, 1), 2);
        x.press(0);
        T.due("start: anew", x.mode(1, 1), 5);
        T.due("start: without its rules on begin, on stop", x.value(0), 5);
        T.due("start: it did not start", x.mode(1, 2), 1);
        x.ticks(4);
        T.due("start: four ticks on it is on", x.mode(1, 0), 1);
        x.ticks(1);
        T.due("start: five ticks on it is off", x.mode(1, 0), 0);
        x = Tally.playing("switch a 0; mode m 0; on a: start m, start n; end mode n 0; end");
        x.press(0);
        T.due("start: mode 0 is on", x.mode(0, 2), 1);
        T.due("start: one without time", x.mode(1, 1), 0);
        x.ticks(100);
        T.due("start: stays on", x.mode(1, 0), 1);
        x = Tally.playing("switch a 0; coil c 0; coil d 0; mode m 0; on a: start n; on stop: score 7; end mode n 0; end");
        x.press(0);
        T.due("start: is no leave", x.mode(0, 0), 1);
        T.due("start: is no fire", x.coil(1, 2), -1);
    }

    // "leave: the RULE's MODE goes off, and does its RULES on stop (if it is ON)."

    private static void leave() {
        SilverBall x = Tally.playing("switch a 0; coil c 0; mode m 0; on begin: start n, start o; on a: score 1; end"
                + " mode n 1 time 4; on a: leave, leave; on stop: score 10, leave; end mode o 0; on stop: score 100; end");
        x.press(0);
        T.due("leave: once, and its rules on stop once", x.score(), 11);
        T.due("leave: it is off", x.mode(1, 0), 0);
        T.due("leave: no time is left", x.mode(1, 1), 0);
        T.due("leave: no other mode's", x.mode(2, 0), 1);
        T.due("leave: fires none", x.coil(0, 2), -1);
        x.press(0);
        T.due("leave: it gets no press more", x.score(), 12);
        x = Tally.playing("switch a 0; var v 0; mode m 0; on a: start n; end"
                + " mode n 0 time 6; on begin: leave, set v v * 10 + left + 1; on stop: set v left + 3; end");
        x.press(0);
        T.due("leave: no time is left on stop, nor behind it", x.value(0), 31);
    }

    // "fire: a COIL waits to fire." "(A COIL waits once at a time; at most 8 wait.)"

    private static void fire() {
        StringBuilder text = new StringBuilder("switch a 0; switch b 0;");
        StringBuilder acts = new StringBuilder("on a: fire c7");
        for (int c = 0; c < 8; c++) {
            text.append("coil c").append(c).append(" 4;");
            acts.append(c < 7 ? ", fire c" + (6 - c) : ", fire c7, fire c0;");
        }
        SilverBall x = Tally.playing(text + "mode m 0;" + acts + "on b: fire c3; end");
        x.press(0);
        for (int c = 0; c < 8; c++) {
            T.due("fire: eight wait, each once, as they came", x.coil(c, 2), 7 - c);
            T.due("fire: none fired yet", x.coil(c, 0), 0);
        }
        T.due("fire: all at once", x.ticks(1), 8);
        for (int c = 0; c < 8; c++) {
            T.due("fire: none waits", x.coil(c, 2), -1);
            T.due("fire: each fired once", x.coil(c, 0), 1);
        }
        x.press(1);
        x.press(0);
        T.due("fire: the one that waits keeps its place", x.coil(3, 2), 0);
        T.due("fire: the others come behind it", x.coil(7, 2), 1);
        T.due("fire: in their order", x.coil(0, 2), 7);
        T.due("fire: they rest", x.ticks(3), 0);
        T.due("fire: and wait", x.coil(0, 2), 7);
        T.due("fire: all have rested", x.ticks(1), 8);
        x = Tally.playing("switch a 0; var v 0; coil c 0; mode m 0; on a: fire c, set v 1; on a: set v v + 1; end");
        x.press(0);
        T.due("fire: holds nothing", x.value(0), 2);
    }

    // "serve: one ball more is IN PLAY (with 3: nothing). drain: one less (with none: nothing)."

    private static void serveAndDrain() {
        SilverBall x = Tally.playing("switch s 0; switch d 0; var v 0; mode m 0; on s: serve;"
                + "on d: drain, set v balls; end");
        x.press(0);
        T.due("serve: two", x.count(8), 2);
        x.press(0);
        T.due("serve: three", x.count(8), 3);
        x.press(0);
        T.due("serve: with three nothing", x.count(8), 3);
        x.press(1);
        T.due("drain: two", x.count(8), 2);
        x.press(1);
        T.due("drain: one", x.count(8), 1);
        T.due("drain: the ball is not over", x.count(7), 1);
        x.press(1);
        T.due("drain: none, as the rule sees it", x.value(0), 0);
        T.due("drain: the ball is over", x.count(7), 2);
        x = Tally.playing("switch a 0; mode m 0; on a: drain, drain, drain, serve, serve; end");
        x.press(0);
        T.due("drain: with none nothing, so two are there", x.count(8), 2);
        x = Tally.playing("switch a 0; mode m 0; on a: serve, serve, serve, serve, drain, drain; end");
        x.press(0);
        T.due("serve: with three nothing, so one is there", x.count(8), 1);
        x = Tally.playing("switch a 0; mode m 0; on a: tilt, serve; end");
        x.press(0);
        T.due("serve: tilted or not", x.count(8), 2);
    }

    // "tilt: the ball is TILTED till the BALL is over; all MODES but MODE 0 go off, by numbers, without their RULES on
    // stop."

    private static void tilt() {
        SilverBall x = Tally.playing("switch t 0; switch a 0; switch o 0; switch s 0; switch n1 0; mode m 0 time 50;"
                + "on begin: start n, start o1; on t: tilt; on a: score 1; on o: drain; on s: serve; on n1: start n;"
                + "on stop: score 9; end mode n 3; on stop: score 90; end mode o1 0 time 9; on stop: score 900; end");
        x.ticks(2);
        x.press(3);
        x.press(0);
        T.due("tilt: tilted", x.count(13), 1);
        T.due("tilt: mode 0 stays", x.mode(0, 0), 1);
        T.due("tilt: with its time", x.mode(0, 1), 48);
        T.due("tilt: n is off", x.mode(1, 0), 0);
        T.due("tilt: o1 is off", x.mode(2, 0), 0);
        T.due("tilt: no time is left of it", x.mode(2, 1), 0);
        T.due("tilt: no rules on stop", x.score(), 0);
        x.press(2);
        T.due("tilt: one of two drained, the ball is not over", x.count(13), 1);
        x.press(1);
        T.due("tilt: nothing is scored", x.score(), 0);
        x.press(4);
        T.due("tilt: modes may start", x.mode(1, 0), 1);
        x.press(0);
        T.due("tilt: once more they go off", x.mode(1, 0), 0);
        T.due("tilt: tilted still", x.count(13), 1);
        x.ticks(10);
        T.due("tilt: ticks do not end it", x.count(13), 1);
        x.press(2);
        T.due("tilt: over with the ball", x.count(13), 0);
        x.press(1);
        T.due("tilt: the next one scores", x.score(), 1);
    }

    // "RULES on begin (none further, when the MODE went off meanwhile)"

    private static void rulesOnBegin() {
        SilverBall x = Tally.playing("switch a 0; var v 0; var w 0; mode m 0; on a: start n, set v v * 10 + 9; end"
                + " mode n 0; on begin if w == 0: set w 1, leave, set v v * 10 + 1; on begin: set v v * 10 + 2; end");
        x.press(0);
        T.due("on begin: off, so none further; the press goes on", x.value(0), 19);
        x = Tally.playing("switch a 0; var v 0; var w 0; mode m 0; on a: start n; end"
                + " mode n 0; on begin if w == 0: set w 1, leave, start n, set v v * 10 + 1;"
                + "on begin: set v v * 10 + 2; end");
        x.press(0);
        T.due("on begin: off and on again, the inner one goes on alone", x.value(0), 21);
        T.due("on begin: it started twice", x.mode(1, 2), 2);
        x = Tally.playing("var v 0; mode m 0; on begin: leave, set v v * 10 + 1; on begin: set v v * 10 + 2; end");
        T.due("on begin: of mode 0", x.value(0), 1);
        x = Tally.playing("switch a 0; var v 0; mode m 0; on a: start n; end"
                + " mode n 0; on begin: tilt, set v v * 10 + 1; on begin: set v v * 10 + 2; end");
        x.press(0);
        T.due("on begin: off by a tilt", x.value(0), 1);
        x = Tally.playing("switch a 0; var v 0; mode m 0; on a: start n; end"
                + " mode n 0; on stop: set v 9; on begin: set v v * 10 + 1; on a: set v 8; on begin: set v v * 10 + 2; end");
        x.press(0);
        T.due("on begin: all of them, and no others", x.value(0), 12);
    }

    // "on stop (all) are done at once, within the ACT"

    private static void rulesOnStop() {
        SilverBall x = Tally.playing("switch a 0; var v 0; mode m 0; on begin: start n; end"
                + " mode n 0 time 7; on a: leave, set v v * 10 + 9; on stop: set v v * 10 + left + 1, start n;"
                + "on begin: set v v * 10 + 2; on stop: set v v * 10 + left; on stop: set v v * 10 + 4; end");
        x.press(0);
        // begin of the game: 2; on stop: 0 + 1, start: 2, seven are left, 4; then 9
        T.due("on stop: all, on again or not", x.value(0), 212749);
        T.due("on stop: it is on", x.mode(1, 0), 1);
    }

    // "at most 8 within one another: more of them are left out (the MODE goes ON or off all the same)"

    private static String chain(int links, String last) {
        StringBuilder text = new StringBuilder();
        for (int i = 1; i <= links; i++) {
            text.append(" mode n").append(i).append(" 0; on begin: score 1, ");
            text.append(i < links ? "start n" + (i + 1) : last).append("; on stop: score 100; end");
        }
        return text.toString();
    }

    private static void eightWithin() {
        SilverBall x = Tally.playing("switch a 0; mode m 0; on a: start n1; end" + chain(8, "score 10"));
        x.press(0);
        T.due("within: the eighth does its rules", x.score(), 18);
        x = Tally.playing("switch a 0; mode m 0; on a: start n1, start k; end" + chain(9, "score 10")
                + " mode k 0; on begin: score 1000; end");
        x.press(0);
        T.due("within: the ninth does not; one beside them does", x.score(), 1008);
        T.due("within: the ninth is on", x.mode(9, 0), 1);
        T.due("within: it started", x.mode(9, 2), 1);
        T.due("within: that is not endless", x.count(12), 0);
        x = Tally.playing("switch a 0; mode m 0; on a: start n1; end" + chain(7, "leave"));
        x.press(0);
        T.due("within: the seventh's rules on stop are the eighth", x.score(), 107);
        x = Tally.playing("switch a 0; mode m 0; on a: start n1; end" + chain(8, "leave, score 10"));
        x.press(0);
        T.due("within: the eighth's rules on stop are left out", x.score(), 18);
        T.due("within: it is off all the same", x.mode(8, 0), 0);
        x = Tally.playing("mode m 0; on begin: start n1; end" + chain(7, "score 10"));
        T.due("within: at the begin mode 0's are the first", x.score(), 17);
        x = Tally.playing("mode m 0; on begin: start n1; end" + chain(8, "score 10"));
        T.due("within: so the eighth of the others does not", x.score(), 7);
        T.due("within: but is on", x.mode(8, 0), 1);
    }

    private static void eightWithinInATick() {
        String ahead = "mode m 0 time 1; on stop: score 1000, start n1; end";
        SilverBall x = Tally.playing(ahead + chain(7, "score 10"));
        x.ticks(1);
        T.due("within a tick: rules on stop are the first, the eighth does its rules", x.score(), 1017);
        x = Tally.playing(ahead + chain(8, "score 10"));
        x.ticks(1);
        T.due("within a tick: the ninth does not", x.score(), 1007);
        T.due("within a tick: it is on", x.mode(8, 0), 1);
    }

    // "In one PRESS (or TICK, or begin) at most 200 ACTS are done: where one more would be, no more is done in it (TIME
    // goes by as ever), and the game is ENDLESS from then on."

    /** A rule of twelve acts, each a score of 1. */
    private static String twelve(String event) {
        return "on " + event + ":score 1" + times(11, ",score 1") + ";";
    }

    private static String eight(String event) {
        return "on " + event + ":score 1" + times(7, ",score 1") + ";";
    }

    private static void twoHundredOfAPress() {
        SilverBall x = Tally.playing("switch a 0; var v 0; mode m 0;" + times(16, twelve("a")) + eight("a")
                + "on a if v == 1: score 1; end");
        x.press(0);
        T.due("200 of a press", x.score(), 200);
        T.due("200 of a press: a rule whose cond does not hold is none more", x.count(12), 0);
        x.press(0);
        T.due("200 of the next press of that tick", x.score(), 400);
        T.due("200 of the next press: not endless", x.count(12), 0);
        x = Tally.playing("switch a 0; switch b 0; mode m 0; on begin: start n; on a: score 1000, drain;"
                + "on b: score 5; end mode n 1;" + times(16, twelve("a")) + eight("a") + "on a: score 500; end");
        x.press(0);
        T.due("201 of a press: no more, of any mode", x.score(), 200);
        T.due("201 of a press: nor is the ball drained", x.count(8), 1);
        T.due("201 of a press: endless", x.count(12), 1);
        x.press(1);
        T.due("201 of a press: the next one does its acts", x.score(), 205);
        T.due("201 of a press: endless from then on", x.count(12), 1);
        T.due("201 of a press: the log says so too", x.again(), 205);
        x.begin();
        T.due("201 of a press: a new game is not", x.count(12), 0);
        x = Tally.playing("switch a 0; mode m 0; on begin: start n; on a: score 1000; end"
                + " mode n 1;" + times(16, twelve("a")) + "on a:" + times(8, "score 1,") + "hold; end");
        x.press(0);
        T.due("201 of a press: a hold that is not done holds nothing, but there is no more", x.score(), 200);
    }

    private static void twoHundredOfATick() {
        String all = times(16, twelve("stop")) + eight("stop").replaceFirst("score 1;", "start n;");
        SilverBall x = Tally.playing("mode m 0; on begin: start n; end mode n 0 time 1;" + all + "end");
        T.due("200 of a tick: three ticks of one call", x.ticks(3), 0);
        T.due("200 of a tick: each by itself", x.score(), 3 * 199);
        T.due("200 of a tick: not endless", x.count(12), 0);
        x = Tally.playing("coil c 0; mode m 0; on begin: start n, start o, start p, fire c; end mode n 9 time 1;"
                + times(17, twelve("stop")) + "end mode o 8 time 1; on stop: score 1000; end mode p 7 time 3; end");
        T.due("201 of a tick: coils fire", x.ticks(1), 1);
        T.due("201 of a tick: no more", x.score(), 200);
        T.due("201 of a tick: endless", x.count(12), 1);
        T.due("201 of a tick: time goes by, to 0", x.mode(2, 0), 0);
        T.due("201 of a tick: and to 2", x.mode(3, 1), 2);
        x = Tally.playing("switch a 0; mode m 0; on begin: start n; on a: score 1" + times(10, ", score 1") + "; end"
                + " mode n 0 time 1;" + times(16, twelve("stop")) + "end");
        x.ticks(1);
        x.press(0);
        T.due("192 of a tick, 11 of a press", x.score(), 203);
        T.due("192 of a tick, 11 of a press: each by itself", x.count(12), 0);
    }

    private static void twoHundredOfABegin() {
        String all = "mode m 0;" + times(16, twelve("begin")) + eight("begin");
        SilverBall x = Tally.playing("switch a 0;" + all + twelve("a") + "end");
        T.due("200 of a begin", x.score(), 200);
        T.due("200 of a begin: not endless", x.count(12), 0);
        x.press(0);
        T.due("200 of a begin: a press by itself", x.score(), 212);
        T.due("200 of a begin: so that is not endless either", x.count(12), 0);
        x.begin();
        T.due("200 of another begin", x.score(), 200);
        T.due("200 of another begin: not endless", x.count(12), 0);
        x = Tally.playing("switch a 0;" + all + "on begin: score 1; end");
        T.due("201 of a begin", x.score(), 200);
        T.due("201 of a begin: endless", x.count(12), 1);
        T.due("201 of a begin: the log begins with it", x.again(), 200);
    }

    /** The 200th act is done whole, but for the acts that would be done within it. */
    private static void lastOfTwoHundred() {
        String ahead = "switch a 0; mode m 0;" + times(16, twelve("a")) + "on a:" + times(7, "score 1,");
        SilverBall x = Tally.playing(ahead + "start n; end mode n 0; on begin: score 50; end");
        x.press(0);
        T.due("the 200th a start: its rules are not done", x.score(), 199);
        T.due("the 200th a start: it is on", x.mode(1, 0), 1);
        T.due("the 200th a start: endless", x.count(12), 1);
        x = Tally.playing(ahead + "start n; end mode n 0; on begin if 1 == 2: score 50; end");
        x.press(0);
        T.due("the 200th a start without acts: not endless", x.count(12), 0);
        x = Tally.playing(ahead + "drain; end");
        x.press(0);
        T.due("the 200th a drain: the ball is over", x.count(7), 2);
        x = Tally.playing(ahead + "drain, serve; end");
        x.press(0);
        T.due("the 201st a serve: the ball is over", x.count(7), 2);
        T.due("the 201st a serve: endless", x.count(12), 1);
        x = Tally.playing(ahead + "hold; on a: score 1; end");
        x.press(0);
        T.due("the 200th a hold: not endless", x.count(12), 0);
    }

    // "If none is IN PLAY behind all ACTS of a PRESS that counts ..: the BALL is over: MODES but MODE 0 go off as by
    // tilt, TILTED ends, and the next BALL begins: one is served."

    private static void ballOver() {
        SilverBall x = Tally.playing("switch o 0; switch b 0; coil c 9; var v 1; place p; place q; way p q by o;"
                + "mode m 0 time 60; on begin: start n, score 5; on o: drain, fire c, set v v + 1; on b: leave;"
                + "on stop: score 100; end mode n 1 time 60; on stop: score 1000; end");
        x.ticks(1);
        x.press(0);
        T.due("over: the second ball", x.count(7), 2);
        T.due("over: one is served", x.count(8), 1);
        T.due("over: at place 0", x.balls(0, false), 1);
        T.due("over: n is off", x.mode(1, 0), 0);
        T.due("over: without its rules on stop", x.score(), 5);
        T.due("over: mode 0 stays on", x.mode(0, 0), 1);
        T.due("over: and does not start again", x.mode(0, 2), 1);
        T.due("over: its time goes on", x.mode(0, 1), 59);
        T.due("over: vars stay", x.value(0), 2);
        T.due("over: a coil waits on", x.coil(0, 2), 0);
        T.due("over: the ticks go on", x.count(9), 1);
        x.press(1);
        T.due("over: mode 0 leaves", x.mode(0, 0), 0);
        T.due("over: with its rules on stop", x.score(), 105);
        x = Tally.playing("switch o 0; mode m 0; on begin: start n; on o: leave; end mode n 9; on o: drain; end");
        x.press(0);
        T.due("over: mode 0 is off and stays so", x.mode(0, 0), 0);
        T.due("over: the second ball all the same", x.count(7), 2);
        x = Tally.playing("switch o 0; mode m 0; on begin: start n; on o: serve; end mode n 9; on o: drain, score balls; end");
        x.press(0);
        T.due("over: not, when another mode serves behind it", x.count(7), 1);
        T.due("over: n stays on", x.mode(1, 0), 1);
    }

    // ".. of a TICK's (2), of the begin"

    private static void ballOverByBeginAndTick() {
        SilverBall x = Tally.playing("place p; mode m 0 time 3; on begin: start n, tilt, drain; on stop: drain; end mode n 0; end");
        T.due("over by the begin: the second ball", x.count(7), 2);
        T.due("over by the begin: no longer tilted", x.count(13), 0);
        T.due("over by the begin: one ball at place 0", x.balls(0, false), 1);
        T.due("over by the begin: mode 0 started once", x.mode(0, 2), 1);
        x.ticks(3);
        T.due("over by a tick: the third ball", x.count(7), 3);
        T.due("over by a tick: one in play", x.count(8), 1);
        x.ticks(50);
        T.due("over by a tick: by the tick at which the mode left alone", x.count(7), 3);
        x = Tally.playing("coil c 0; mode m 0 time 1; on stop: score 1, drain, fire c, start m; end");
        T.due("over by three ticks: a coil fires in each", x.ticks(11), 3);
        T.due("over by three ticks: the game is over", x.count(7), 0);
        T.due("over by three ticks: each drained one", x.score(), 3);
        T.due("over by three ticks: mode 0's time stays", x.mode(0, 1), 1);
        T.due("over by three ticks: the ticks went by", x.count(9), 11);
        T.due("over by three ticks: in none behind the third it fired", x.coil(0, 1), 3);
    }

    // "Behind the third one the game is over: no PRESS counts any more, no MODE's TIME goes by; TICKS go by, COILS fire."

    private static void gameOver() {
        SilverBall x = Tally.playing("switch o 0; switch a 0; lamp l a; coil c 5; place p; place q; way q p by a;"
                + "mode m 0 time 9; on begin: start n; on o: drain, fire c; on a: score 1; on stop: score 100; end"
                + " mode n 0 time 9; on stop: score 1000; end");
        x.press(0);
        x.press(0);
        x.ticks(1);
        T.due("the third ball", x.count(7), 3);
        T.due("the third ball: a press counts", x.press(1), 1);
        T.due("the third ball: lit", x.lamp(0), 1);
        T.due("the third ball: it ends by a press that counts", x.press(0), 1);
        T.due("game over", x.count(7), 0);
        T.due("game over: none in play", x.count(8), 0);
        T.due("game over: no press counts", x.press(1), 0);
        T.due("game over: none did", x.told(1, 0), 1);
        T.due("game over: it was one", x.told(1, 1), 2);
        T.due("game over: no rules", x.score(), 1);
        T.due("game over: none is lost", x.count(11), 1);
        T.due("game over: one layout, without balls", x.count(10), 1);
        T.due("game over: none at place 0", x.balls(0, true), 0);
        T.due("game over: n is off", x.mode(1, 0), 0);
        T.due("game over: mode 0 is on", x.mode(0, 0), 1);
        T.due("game over: not lit", x.lamp(0), 0);
        T.due("game over: not tilted", x.count(13), 0);
        T.due("game over: the coil rests, then fires", x.ticks(100), 1);
        T.due("game over: at its tick", x.coil(0, 1), 6);
        T.due("game over: ticks went by", x.count(9), 101);
        T.due("game over: no time did", x.mode(0, 1), 8);
        T.due("game over: nor did it leave", x.score(), 1);
        T.due("game over: the log is whole", x.count(14), 5);
        T.due("game over: the log gives the score", x.again(), 1);
        x.begin();
        T.due("game over: another one", x.press(1), 1);
    }

    // "A TICK: (1) it is one more. (2) each MODE ON with a TIME .. (3) COILS"

    private static void ticksInOrder() {
        SilverBall x = Tally.playing("switch a 1; coil c 0; mode m 0 time 1; on stop: fire c; end");
        x.press(0);
        T.due("tick: a coil that a mode fires in (2) fires in (3)", x.ticks(1), 1);
        T.due("tick: at the tick that is one more", x.coil(0, 1), 1);
        T.due("tick: one more for the bounce too", x.press(0), 1);
        T.due("tick: once", x.ticks(5), 0);
        T.due("tick: five more", x.count(9), 6);
        x = Tally.playing("switch a 0; coil c 0; mode m 0; on a: fire c; end");
        x.ticks(7);
        x.press(0);
        T.due("tick: a press fires at the next one", x.coil(0, 0), 0);
        T.due("tick: then it fires", x.ticks(1), 1);
        T.due("tick: the eighth", x.coil(0, 1), 8);
    }

    // "one less left; at 0 it leaves"

    private static void timeOfModes() {
        SilverBall x = Tally.playing("switch a 0; mode m 0; on a: start n, start o; end"
                + " mode n 0 time 1; on stop: score 1; end mode o 0 time 99999; end");
        x.ticks(3);
        x.press(0);
        T.due("time 1: on", x.mode(1, 0), 1);
        T.due("time 1: one left", x.mode(1, 1), 1);
        x.ticks(1);
        T.due("time 1: off by the next tick", x.mode(1, 0), 0);
        T.due("time 1: with its rules on stop", x.score(), 1);
        T.due("time 99999: one less", x.mode(2, 1), 99998);
        x.press(0);
        T.due("time 99999: anew", x.mode(2, 1), 99999);
        x = Tally.playing("mode m 0 time 1; on stop: score 1; end");
        x.ticks(1);
        T.due("time 1: of mode 0", x.mode(0, 0), 0);
        T.due("time 1: its rules on stop", x.score(), 1);
        x = Tally.playing("mode m 0 time 3; on stop: score 1; end");
        x.ticks(2);
        T.due("time 3: two ticks on", x.mode(0, 1), 1);
        T.due("time 3: it is on", x.score(), 0);
        x.ticks(1);
        T.due("time 3: three ticks on", x.score(), 1);
        x.ticks(9);
        T.due("time 3: once", x.score(), 1);
    }

    // "each MODE ON with a TIME, in order, as they were ON (one that went off meanwhile is left out)"

    private static void modesOfATick() {
        SilverBall x = Tally.playing("var v 0; mode m 0 time 2; on begin: start n, start o, start p;"
                + "on stop: set v v * 10 + 1; end mode n 7 time 2; on stop: set v v * 10 + 2; end"
                + " mode o 9 time 2; on stop: set v v * 10 + 3; end mode p 7 time 2; on stop: set v v * 10 + 4; end");
        x.ticks(2);
        T.due("modes of a tick: by their order", x.value(0), 3241);
        x = Tally.playing("mode m 0; on begin: start a, start b, start c; end mode a 5 time 2; on stop: start b, start c,"
                + "start d, start e; end mode b 4 time 7; end mode c 6 time 7; end mode d 4 time 7; end mode e 6 time 7; end");
        x.ticks(1);
        x.ticks(1);
        T.due("modes of a tick: one behind it begins anew, then one less", x.mode(2, 1), 6);
        T.due("modes of a tick: one ahead of it: one less, then anew", x.mode(3, 1), 7);
        T.due("modes of a tick: one behind it that was off", x.mode(4, 1), 7);
        T.due("modes of a tick: one ahead of it that was off", x.mode(5, 1), 7);
        x = Tally.playing("mode m 9; on begin: start a, start b, start c; end mode a 5 time 1; on stop: tilt, start b; end"
                + " mode b 4 time 1; on stop: score 1; end mode c 3 time 1; on stop: score 1; end");
        x.ticks(1);
        T.due("modes of a tick: off meanwhile and on again", x.mode(2, 1), 1);
        T.due("modes of a tick: off meanwhile", x.mode(3, 0), 0);
        x = Tally.playing("switch a 0; var v 0; mode m 0; on a: start n; end mode n 0 time 2; on stop: set v v + 1, start n; end");
        x.press(0);
        x.ticks(7);
        T.due("modes of a tick: one that starts itself again as it leaves", x.value(0), 3);
        T.due("modes of a tick: has its time", x.mode(1, 1), 1);
    }

    // "each fires that fired never or at least its REST TICKS ago"

    private static void rest() {
        SilverBall x = Tally.playing("switch a 0; coil c 4; coil d 1; coil e 0; coil f 99999; mode m 0;"
                + "on a: fire c, fire d, fire e, fire f; end");
        x.press(0);
        T.due("rest: none that fired never", x.ticks(1), 4);
        x.press(0);
        T.due("rest 1 and 0: at the next tick", x.ticks(1), 2);
        T.due("rest 4: it waits first", x.coil(0, 2), 0);
        T.due("rest 99999: behind it", x.coil(3, 2), 1);
        T.due("rest 4: three ticks behind it", x.ticks(2), 0);
        T.due("rest 4: four ticks behind it", x.ticks(1), 1);
        T.due("rest 4: at tick 5", x.coil(0, 1), 5);
        T.due("rest 99999: first now", x.coil(3, 2), 0);
        T.due("rest 99999: waits on", x.ticks(100), 0);
        x.press(0);
        T.due("rest 99999: it waits once", x.coil(3, 2), 0);
        T.due("rest: the others have rested", x.ticks(1), 3);
        T.due("rest: of c", x.coil(0, 0), 3);
        T.due("rest: of f", x.coil(3, 0), 1);
    }

    // "and of which no COIL that is APART from it fired in this TICK"

    private static void apart() {
        SilverBall x = Tally.playing("switch a 0; switch b 0; coil c 0; coil d 0; coil e 0; apart d c; mode m 0;"
                + "on a: fire c, fire d, fire e; on b: fire d, fire c; end");
        x.press(0);
        T.due("apart: c and e", x.ticks(1), 2);
        T.due("apart: d waits", x.coil(1, 2), 0);
        T.due("apart: d in the next tick", x.ticks(1), 1);
        x.press(1);
        T.due("apart: the other way about", x.ticks(1), 1);
        T.due("apart: it is d", x.coil(1, 1), 3);
        T.due("apart: c waits", x.coil(0, 2), 0);
        x.press(1);
        T.due("apart: c came ahead of d", x.ticks(1), 1);
        T.due("apart: so c fires", x.coil(0, 1), 4);
        T.due("apart: then d", x.ticks(1), 1);
        T.due("apart: none waits", x.ticks(5), 0);
        T.due("4 a table of which none are apart", Tally.read(x, "coil c 0; coil d 0; coil e 0; mode m 0;"
                + "on begin: fire d, fire c; end"), 0);
        x.begin();
        T.due("apart: not any more", x.ticks(1), 2);
        x = Tally.playing("coil c 0; coil d 0; apart c d; apart d c; apart c d; mode m 0; on begin: fire c, fire d; end");
        T.due("apart: told three times", x.ticks(1), 1);
    }

    // "left: the TIME left of the RULE's MODE (0 without); balls: IN PLAY."

    private static void leftAndBalls() {
        SilverBall x = Tally.playing("switch a 0; var v 0; var w 0; mode m 0; on begin: start n; on a: set v left; end"
                + " mode n 1 time 40; on a: set w left * 10 + balls, serve, set w w * 10 + balls; end");
        x.ticks(3);
        x.press(0);
        T.due("left: of a mode without time", x.value(0), 0);
        T.due("left: of n; balls: one, then two", x.value(1), 3712);
    }

    // "that has an ACT score, start, serve"

    private static void lampActs() {
        String[] acts = {"score 0", "start m", "start n", "serve", "set v 1", "leave", "fire c", "hold", "drain", "tilt"};
        int[] lit = {1, 1, 1, 1, 0, 0, 0, 0, 0, 0};
        for (int i = 0; i < acts.length; i++) {
            String ahead = "switch a 0; coil c 0; lamp l a; var v 0; mode m 0; on a: ";
            SilverBall x = Tally.playing(ahead + acts[i] + "; end mode n 0; end");
            T.due("lamp: " + acts[i], x.lamp(0), lit[i]);
            x = Tally.playing(ahead + "drain, " + acts[i] + ", drain; end mode n 0; end");
            T.due("lamp: within others " + acts[i], x.lamp(0), lit[i]);
            x = Tally.playing(ahead + times(11, "drain, ") + acts[i] + "; end mode n 0; end");
            T.due("lamp: the twelfth " + acts[i], x.lamp(0), lit[i]);
            x = Tally.playing(ahead.replace("on a", "on begin") + acts[i] + "; on stop: score 1; end mode n 0; end");
            T.due("lamp: on begin, on stop", x.lamp(0), 0);
        }
        SilverBall x = Tally.playing("switch a 0; switch b 0; lamp l b; lamp k a; lamp j b; mode m 0; on a: score 1; end");
        T.due("lamp: another switch", x.lamp(0), 0);
        T.due("lamp: its switch", x.lamp(1), 1);
        T.due("lamp: two of one switch", x.lamp(2), 0);
    }

    // "asked MODE by MODE and RULE by RULE as all stands now, nothing being done, till one whose COND holds has hold"

    private static void lampRules() {
        String ahead = "switch a 0; switch b 0; lamp l a; var v 0; ";
        SilverBall x = Tally.playing(ahead + "mode m 0; on a if v == 1: score 1; on b: set v v + 1; end");
        T.due("lamp: its cond does not hold", x.lamp(0), 0);
        x.press(1);
        T.due("lamp: it holds", x.lamp(0), 1);
        x.press(1);
        T.due("lamp: it holds no more", x.lamp(0), 0);
        x = Tally.playing(ahead + "mode m 0; on a: hold, score 1; end");
        T.due("lamp: hold and score in one", x.lamp(0), 1);
        x = Tally.playing(ahead + "mode m 0; on a: hold; on a: score 1; on b: leave; end");
        T.due("lamp: hold ahead of score", x.lamp(0), 0);
        x = Tally.playing(ahead + "mode m 0; on a if v == 0: hold; on a: score 1; on b: set v 1; end");
        T.due("lamp: a hold whose cond holds", x.lamp(0), 0);
        x.press(1);
        T.due("lamp: a hold whose cond does not", x.lamp(0), 1);
        x = Tally.playing(ahead + "mode m 1; on a: set v 1, leave; on a if v == 0: tilt; on a: score 1; end");
        T.due("lamp: nothing is done, so m is on", x.lamp(0), 1);
        T.due("lamp: nor is v set", x.value(0), 0);
        T.due("lamp: nor tilted", x.count(13), 0);
        x = Tally.playing(ahead + "mode m 1; on b: start n; end mode n 0; on a: score 1; end");
        T.due("lamp: a rule of the mode behind, that is off", x.lamp(0), 0);
        x.press(1);
        T.due("lamp: that is on", x.lamp(0), 1);
        x = Tally.playing(ahead + "mode m 1; on b: start n; on a: score 1; end mode n 2 time 3; on a: hold; end");
        T.due("lamp: a hold of a mode that is off", x.lamp(0), 1);
        x.press(1);
        T.due("lamp: of one ahead that is on", x.lamp(0), 0);
        x.ticks(3);
        T.due("lamp: it left", x.lamp(0), 1);
        x = Tally.playing(ahead + "mode m 1; on b: start n; on a: hold; end mode n 1; on a: score 1; end");
        x.press(1);
        T.due("lamp: of the same rank the lesser number ahead", x.lamp(0), 0);
        x = Tally.playing(ahead + "mode m 1; on begin: start n; on a if balls == 2: serve; end mode n 2 time 4;"
                + "on a if left == 2: score 1; on b: serve; end");
        T.due("lamp: left and balls", x.lamp(0), 0);
        x.ticks(2);
        T.due("lamp: two are left", x.lamp(0), 1);
        x.ticks(2);
        T.due("lamp: n is off", x.lamp(0), 0);
    }

    // "if it counted now", "the game is not over, and the ball not TILTED"

    private static void lampStates() {
        SilverBall x = Tally.playing("switch a 99; switch o 0; switch t 0; switch b 0; lamp l a; mode m 0; on a: score 1;"
                + "on o: drain; on t: tilt; on b: leave; end");
        x.press(0);
        T.due("lamp: whether the press would bounce", x.lamp(0), 1);
        x.press(2);
        T.due("lamp: tilted", x.lamp(0), 0);
        x.press(1);
        T.due("lamp: the ball is over", x.lamp(0), 1);
        x.press(3);
        T.due("lamp: mode 0 is off, whose rule is the first of all", x.lamp(0), 0);
        T.due("lamp: asking is no press", x.told(0, 1), 1);
        x.begin();
        x.press(1);
        x.press(1);
        T.due("lamp: the third ball", x.lamp(0), 1);
        x.press(1);
        T.due("lamp: the game is over", x.lamp(0), 0);
    }

    /** A game that begins has nothing of one that was ahead of it. */
    private static void gameBehindGame() {
        SilverBall x = Tally.playing("switch a 9; switch t 0; coil c 50; coil d 50; place p; place q; way q p by a; var v 7;"
                + "mode m 0 time 30; on a: serve, set v 1, fire c, fire d, score 3; on t: tilt; end");
        x.press(0);
        x.ticks(1);
        x.press(1);
        x.press(0);
        T.due("behind: fired", x.coil(0, 0), 1);
        T.due("behind: lost", x.count(11), 1);
        x.ticks(9);
        x.press(0);
        T.due("behind: waits", x.coil(1, 2), 1);
        x.begin();
        for (int c = 0; c < 2; c++) {
            T.due("behind: a coil fired never", x.coil(c, 0), 0);
            T.due("behind: at no tick", x.coil(c, 1), -1);
            T.due("behind: nor waits", x.coil(c, 2), -1);
        }
        int[] want = {1, 1, 0, 1, 0, 0, 0, 0};
        for (int i = 0; i < want.length; i++) {
            T.due("behind: count " + (i + 7), x.count(i + 7), want[i]);
        }
        T.due("behind: a switch's counted", x.told(0, 0), 0);
        T.due("behind: its presses", x.told(0, 1), 0);
        T.due("behind: the var", x.value(0), 7);
        T.due("behind: the time", x.mode(0, 1), 30);
        T.due("behind: it started once", x.mode(0, 2), 1);
        T.due("behind: no bounce", x.press(0), 1);
        T.due("behind: lost once", x.count(11), 1);
        T.due("behind: it scores", x.score(), 3);
        T.due("behind: no rest", x.ticks(1), 2);
        x = Tally.playing("switch a 0; place p; place q; place r; way q r; way r q by a;");
        x.press(0);
        T.due("behind: all layouts of a ball that is lost", x.count(10), 3);
        x.begin();
        T.due("behind: one of a ball that is not", x.count(10), 1);
        T.due("behind: from place 0 no way is silent", x.balls(0, false), 1);
    }

    // "REL: E ('==' | '!=' | '<' | '<=') E": less, the same, more; ints below 0 and ints that wrapped

    private static void rels() {
        String[] pairs = {"1 # 2", "2 # 2", "3 # 2", "-1 # 0", "0 # -1", "-2 # -2", "65536 * 32768 # 65536 * 32768 - 1",
            "65536 * 32768 - 1 # 65536 * 32768"};
        int[] order = {-1, 0, 1, -1, 1, 0, -1, 1};
        String[] signs = {"==", "!=", "<", "<="};
        for (int i = 0; i < pairs.length; i++) {
            boolean[] holds = {order[i] == 0, order[i] != 0, order[i] < 0, order[i] <= 0};
            for (int k = 0; k < signs.length; k++) {
                String cond = pairs[i].replace("#", signs[k]);
                SilverBall x = Tally.playing("mode m 0; on begin if " + cond + ": score 1; end");
                T.due("rel: " + cond, x.score(), holds[k] ? 1 : 0);
                x = Tally.playing("mode m 0; on begin if 1 == 1 and " + cond + ": score 1; end");
                T.due("rel: and " + cond, x.score(), holds[k] ? 1 : 0);
                x = Tally.playing("mode m 0; on begin if " + cond + " and 1 == 1: score 1; end");
                T.due("rel: " + cond + " and", x.score(), holds[k] ? 1 : 0);
            }
        }
    }

    // "E: ['-'] PART2 {('+' | '-') PART2}. PART2: UNIT {'*' UNIT}. UNIT: .. '(' E ')'": times ahead of plus and minus, from
    // the left, a first minus of its whole PART2

    private static void sums() {
        String[] sums = {"1 + 2 * 3", "2 * 3 + 1", "7 - 2 - 1", "7 - (2 - 1)", "-2 * 3 + 10", "-(2 + 3)", "3 * (-2)",
            "3 * (-2 + 5)", "1 - (-2)", "1 - (-2) * (-3)", "2 * (1 + 2) * (3 - 5)", "((4))", "0 - 1 * 0", "-0", "5 * 0 - 3",
            "(1 + 2) * 3", "(1 - 2) * (3 - 4) - (5 - 7)"};
        int[] worth = {7, 7, 4, 6, 4, -5, -6, 9, 3, -5, -12, 4, 0, 0, -3, 9, 3};
        for (int i = 0; i < sums.length; i++) {
            SilverBall x = Tally.playing("var v 77; mode m 0; on begin: set v " + sums[i] + "; end");
            T.due("sum: " + sums[i], x.value(0), worth[i]);
        }
        SilverBall x = Tally.playing("var v 3; var w 4; mode m 0 time 8; on begin: set v -v * w - left * (balls + w); end");
        T.due("sum: vars, left, balls", x.value(0), -52);
    }
}
