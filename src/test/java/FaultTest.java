/** Faults by their numbers and places. A '^' in a text stands where the fault is due, and is no part of it. */
public final class FaultTest {
    private static final Tally T = new Tally("FaultTest");

    private FaultTest() {
    }

    public static void main(String[] args) {
        tokens();
        parts();
        modes();
        sums();
        textEnds();
        roomOfParts();
        roomOfModes();
        roomOfTokens();
        twice();
        names();
        wrong();
        firstOfAll();
        nothingChanges();
        T.close();
    }

    private static void due(int fault, String marked) {
        int place = marked.indexOf('^');
        String text = place < 0 ? marked : marked.substring(0, place) + marked.substring(place + 1);
        String label = marked.length() < 90 ? marked : ".. " + marked.substring(marked.length() - 90);
        SilverBall x = new SilverBall();
        T.due("4 fault of " + label, Tally.read(x, text), fault);
        T.due("5 place of " + label, x.place(), place);
    }

    private static void tokens() {
        due(0, "");
        due(0, " \t\r\n ");
        due(0, "switch abcdefgh 99999;");
        due(0, "switch zyxwv098 00000; switch z 1; switch a9z 1;");
        due(1, "switch ^abcdefghi 1;");
        due(1, "switch ^a2345678901234567890 1;");
        due(1, "switch a ^123456;");
        due(1, "switch a ^000001;");
        due(0, "switch a 00001;");
        due(0, "switch a\t1\n;\rswitch\nb 2\n;");
        due(0, "switch a1 1;switch b 2;");
        due(0, "switch begins 1; switch mode1 1; switch b 1;");
        due(1, "switch ^begin 1;");
        due(1, "switch ^by 1;");
        due(1, "switch ^balls 1;");
        due(1, "switch ^left 1;");
        due(1, "switch ^time 1;");
        due(1, "switch ^and 1;");
        due(1, "switch ^A 1;");
        due(1, "switch a^B 1;");
        due(1, "^Switch a 1;");
        due(1, "switch a 1^a;");
        due(1, "switch ^1a 1;");
        due(1, "switch a 1;^\u00e9");
        due(1, "switch a 1;^\u0000");
        due(1, "switch a 1;^\u000b");
        due(1, "switch a 1;^\u00a0");
        due(1, "switch a^_b 1;");
        due(1, "mode m 0; on begin if 1 ^= 1: hold; end");
        due(1, "mode m 0; on begin if 1 ^! 1: hold; end");
        due(1, "mode m 0; on begin if 1 ^> 1: hold; end");
        due(1, "mode m 0; on begin if 1 ^= = 1: hold; end");
        due(1, "mode m 0; on begin if 1 ==^= 1: hold; end");
        due(1, "mode m 0; on begin if 1 <^< 1: hold; end");
        due(0, "mode m 0; on begin if 1<=1 and 1<1 and 1!=1 and 1==-1: hold; end");
        due(1, "mode m 0; on begin if 1 < ^= 1: hold; end");
    }

    private static void parts() {
        due(1, "^a");
        due(1, "^;");
        due(1, "^7");
        due(1, "^end");
        due(1, "^on begin: hold;");
        due(1, "^by");
        due(1, "switch ^;");
        due(1, "switch ^switch a 1;");
        due(1, "switch a ^;");
        due(1, "switch a ^b 1;");
        due(1, "switch a ^-1;");
        due(1, "switch a 1 ^2;");
        due(1, "switch a 1^:");
        due(1, "coil k^;");
        due(1, "var v^;");
        due(1, "var v ^-1;");
        due(1, "apart k^;");
        due(1, "apart k ^1;");
        due(1, "apart k j ^l;");
        due(1, "lamp l^;");
        due(1, "lamp l ^1;");
        due(1, "place p ^1;");
        due(1, "place ^p1p2p3p4p;");
        due(1, "way p^;");
        due(1, "way p ^by s;");
        due(1, "way p q by^;");
        due(1, "way p q ^r;");
        due(1, "way p q by s ^t;");
        due(1, "way p q ^1;");
        due(1, "switch a 1;^,");
        due(1, "mode m 0; end ^switch a 1;");
        due(1, "mode m 0; end^;");
    }

    private static void modes() {
        due(0, "mode m 0; end");
        due(0, "mode m 0 time 1; end mode n 99999; end");
        due(1, "mode ^0; end");
        due(1, "mode m ^; end");
        due(1, "mode m 0 ^end");
        due(1, "mode m 0 ^5; end");
        due(1, "mode m 0 time ^; end");
        due(1, "mode m 0 time ^m; end");
        due(1, "mode m 0 time 1 ^time 1; end");
        due(1, "mode m 0; ^mode n 0; end");
        due(1, "mode m 0; ^hold; end");
        due(1, "mode m 0; ^; end");
        due(1, "mode m 0; on ^: hold; end");
        due(1, "mode m 0; on ^if 1 == 1: hold; end");
        due(1, "mode m 0; on ^tilt: hold; end");
        due(1, "mode m 0; on begin ^stop: hold; end");
        due(1, "mode m 0; on begin ^hold; end");
        due(1, "mode m 0; on begin:^; end");
        due(1, "mode m 0; on begin: ^end");
        due(1, "mode m 0; on begin: hold ^end");
        due(1, "mode m 0; on begin: hold ^hold; end");
        due(1, "mode m 0; on begin: hold,^; end");
        due(1, "mode m 0; on begin: hold,^, hold; end");
        due(1, "mode m 0; on begin: ^hald; end");
        due(1, "mode m 0; on begin: leave ^m; end");
        due(1, "mode m 0; on begin: start^; end");
        due(1, "mode m 0; on begin: start ^1; end");
        due(1, "mode m 0; on begin: fire ^1; end");
        due(1, "mode m 0; on begin: set ^1; end");
        due(1, "mode m 0; on begin: set v^; end");
        due(1, "mode m 0; on begin: set v ^== 1; end");
        due(1, "mode m 0; on begin: set ^left 1; end");
        due(1, "mode m 0; on begin: score^; end");
        due(1, "mode m 0; on begin: score 1 ^== 1; end");
        due(1, "mode m 0; on begin if^: hold; end");
        due(1, "mode m 0; on begin if 1^: hold; end");
        due(1, "mode m 0; on begin if 1 ==^: hold; end");
        due(1, "mode m 0; on begin if 1 == 1 ^== 1: hold; end");
        due(1, "mode m 0; on begin if 1 ^1: hold; end");
        due(1, "mode m 0; on begin if 1 ^(1): hold; end");
        due(1, "mode m 0; on begin if 1 ^left: hold; end");
        due(1, "mode m 0; on begin if 1 == 1 and^: hold; end");
        due(1, "mode m 0; on begin if 1 == 1 and 1^: hold; end");
        due(1, "mode m 0; on begin if 1 == 1 ^if 1 == 1: hold; end");
        due(1, "mode m 0; on begin if (1 ^== 1): hold; end");
        due(1, "mode m 0; on begin: hold; end ^end");
    }

    private static void sums() {
        String ahead = "mode m 0; on begin: score ";
        due(0, ahead + "-1; end");
        due(1, ahead + "-^-1; end");
        due(1, ahead + "^+1; end");
        due(1, ahead + "^*1; end");
        due(1, ahead + "1 + ^-1; end");
        due(1, ahead + "1 * ^-1; end");
        due(0, ahead + "1 * (-1); end");
        due(1, ahead + "1 +^; end");
        due(1, ahead + "1 *^; end");
        due(1, ahead + "-^; end");
        due(1, ahead + "1 ^1; end");
        due(1, ahead + "1 ^left; end");
        due(1, ahead + "1 ^(1); end");
        due(1, ahead + "(^); end");
        due(1, ahead + "(1^; end");
        due(1, ahead + "(1^, end");
        due(1, ahead + "(1 ^1); end");
        due(1, ahead + "1^); end");
        due(1, ahead + "(1)^); end");
        due(1, ahead + "^) 1; end");
        due(1, ahead + "(1)^(2); end");
        due(1, ahead + "^begin; end");
        due(0, ahead + "left * balls - (left + 1); end");
        due(0, ahead + "((((((1)))))) * ((((((-2)))))); end");
        due(2, ahead + "((((((^(1))))))); end");
        due(2, ahead + "(1) + ((((((^(1))))))); end");
        due(2, ahead + "((((((^(; end");
        due(0, ahead + "((((((1) + (2)) + (3)) + (4)) + (5)) + (6)); end");
        due(2, "mode m 0; on begin if 1 < ((((((^(1))))))): hold; end");
        due(1, ahead + "((((((1))))))^); end");
    }

    private static void textEnds() {
        String whole = "switch s 1 ; way p q by s ; mode m 0 time 1 ; on begin if ( 1 ) < - 2 : set v 1 , hold ; end";
        for (int at = whole.indexOf(' '); at >= 0; at = whole.indexOf(' ', at + 1)) {
            String cut = whole.substring(0, at);
            if (!cut.endsWith("s 1 ;") && !cut.endsWith("by s ;")) {
                due(1, cut + "^");
                due(1, cut + " \n ^");
            }
        }
        due(1, "mode m 0; on begin: hold; ^end1");
    }

    private static String times(int n, String one) {
        StringBuilder all = new StringBuilder();
        for (int i = 0; i < n; i++) {
            all.append(one.replace("#", "" + i));
        }
        return all.toString();
    }

    private static void roomOfParts() {
        String heads = "coil c 0; coil d 0; place p; place q; switch s 0;";
        dueRoom("", "switch a# 0;", 16);
        dueRoom("", "coil a# 0;", 8);
        dueRoom(heads, "apart c d;", 8);
        dueRoom(heads, "lamp a# s;", 16);
        dueRoom("", "place a#;", 8);
        dueRoom(heads, "way p q;", 24);
        dueRoom("", "var a# 0;", 16);
        dueRoom("", "mode a# 0;end ", 12);
        due(2, times(16, "switch a# 0;") + "coil k 0; ^switch");
        due(2, times(16, "switch a 0;") + "^switch a 0;");
    }

    private static void dueRoom(String heads, String one, int room) {
        due(0, heads + times(room, one));
        due(2, heads + times(room, one) + "^" + one.replace("#", "x"));
    }

    private static void roomOfModes() {
        String rule = "on begin:hold;";
        due(0, "mode m 0;" + times(80, rule) + "end");
        due(2, "mode m 0;" + times(80, rule) + "^" + rule + "end");
        due(2, "mode m 0;" + times(79, rule) + "end mode n 0;" + rule + "end mode o 0;^on begin");
        due(0, "mode m 0;on begin:hold" + times(11, ",hold") + ";end");
        due(0, "mode m 0;" + times(3, "on begin:hold" + times(11, ",hold") + ";") + "end");
        due(2, "mode m 0;on begin:hold" + times(11, ",hold") + ",^score 1;end");
        due(1, "mode m 0;on begin:hold" + times(11, ",hold") + ",^;end");
        due(1, "mode m 0;on begin:hold" + times(11, ",hold") + "^:end");
        due(2, "mode m 0;on begin:hold" + times(11, ",hold") + ",^tilt");
    }

    private static void roomOfTokens() {
        // ten tokens, then two for each that is added, then two for the end
        String ahead = "mode m 0;on begin:score -1";
        String end = times(494, "+1") + ";end";
        due(0, ahead + end);
        due(0, ahead + end + " \n\n ");
        due(2, ahead + end + " ^mode");
        due(1, ahead + end + "^;");
        due(1, ahead + end + " ^$");
        due(1, ahead + end + " ^123456");
        due(0, ahead + times(493, "+1") + "+ 1;end");
        String full = times(495, "+1");
        due(2, ahead + full + "^;");
        due(2, ahead + full + "^;end");
        due(2, ahead + full + "^+1+1+1;end");
        due(2, ahead + full + "^*");
        due(1, ahead + full + "^:");
        due(1, ahead + full + " ^end");
        due(1, ahead + full + "^");
        due(1, ahead + full + "^=");
        due(1, ahead + times(494, "+1") + "+^+");
    }

    private static void twice() {
        due(3, "switch a 0; switch ^a 0;");
        due(3, "switch a 0; coil ^a 0;");
        due(3, "coil a 0; lamp ^a a;");
        due(3, "switch a 0; lamp l a; place ^l;");
        due(3, "place a; var ^a 0;");
        due(3, "var a 0; mode ^a 0; end");
        due(3, "mode a 0; end mode b 0; end mode ^a 0; end");
        due(3, "switch a 0; coil ^a 0; apart a b;");
        due(0, "switch a 0; coil aa 0; var a1 0; var a10 0; place aaaaaaaa; place aaaaaaab;");
    }

    private static void names() {
        due(4, "lamp l ^a; switch a 0;");
        due(4, "lamp l ^l;");
        due(4, "coil k 0; lamp l ^k;");
        due(4, "switch a 0; lamp l a; lamp k ^l;");
        due(4, "coil k 0; apart ^a k;");
        due(4, "coil k 0; apart k ^a;");
        due(4, "switch a 0; coil k 0; apart k ^a;");
        due(4, "place p; way ^q p;");
        due(4, "place p; way p ^q;");
        due(4, "place p; place q; way p q by ^s; switch s 0;");
        due(4, "place p; place q; way p q by ^p;");
        due(4, "mode m 0; on ^s: hold; end");
        due(4, "mode m 0; on ^m: hold; end");
        due(4, "mode m 0; on begin: fire ^k; end");
        due(4, "switch s 0; mode m 0; on begin: fire ^s; end");
        due(4, "mode m 0; on begin: set ^v 1; end");
        due(4, "switch s 0; mode m 0; on begin: set ^s 1; end");
        due(4, "var v 0; mode m 0; on begin: set v ^w; end");
        due(4, "var v 0; mode m 0; on begin: set v v + (2 * ^w); end");
        due(4, "mode m 0; on begin: score ^v; end");
        due(4, "coil v 0; mode m 0; on begin if ^v == 0: hold; end");
        due(4, "var v 0; mode m 0; on begin if v == 0 and 0 < ^w: hold; end");
        due(4, "mode m 0; on begin: score ^m; end");
        due(4, "mode m 0; on begin: start ^n; end");
        due(4, "var n 0; mode m 0; on begin: start ^n; end");
        due(0, "mode m 0; on begin: start n, start m; end mode n 0; on begin: start m; end");
        due(4, "var n 0; mode m 0; on begin: start ^n; end mode n 0; end");
        due(3, "mode m 0; on begin: start n; end mode n 0; end mode ^n 0; end");
        due(4, "mode m 0; on begin: start n, start ^o; end mode n 0; end mode n 0; end");
    }

    private static void wrong() {
        due(5, "coil k 0; apart k ^k;");
        due(5, "place p; way p ^p;");
        due(5, "place p; switch s 0; way p ^p by s;");
        due(4, "apart ^k k;");
        due(4, "place p; way ^q q;");
        due(5, "mode m 0 time ^0; end");
        due(5, "mode m 0 time ^00000; end");
        due(0, "mode m 0 time 00001; end");
        due(0, "switch a 0; coil b 0; var c 0; mode m 0 time 99999; end");
        due(4, "mode m 0; on begin: start ^n; end mode o 0 time 0; end");
        due(5, "mode m 0 time ^0; on begin: start n; end");
    }

    private static void firstOfAll() {
        due(1, "switch a 0; switch a 0; lamp l x; mode m 0 time 0; ^");
        due(2, "switch a 0; switch a 0;" + times(14, "switch a# 0;") + "^switch z 0; ;");
        due(1, "switch a 0; ^; " + times(17, "switch a# 0;"));
        due(3, "switch a 0; switch ^a 0; lamp l x; coil k 0; apart k k;");
        due(4, "switch a 0; lamp l ^x; switch a 0; coil k 0; apart k k;");
        due(5, "switch a 0; coil k 0; apart k ^k; lamp l x; switch a 0;");
    }

    private static void nothingChanges() {
        SilverBall x = Tally.playing("switch a 3; mode m 2; on a: score 4; end");
        x.press(0);
        T.due("4 a fault", Tally.read(x, "switch a 5; switch b 6; mode m 7; on a: score 1; end mode n 3; end mode"), 1);
        T.due("4 the bounce of then", x.told(0, 3), 3);
        T.due("4 the switches of then", x.count(0), 1);
        T.due("4 the rank of then", x.mode(0, 3), 2);
        T.due("4 another fault", Tally.read(x, "switch a 5; mode m 7; on a: score 1; end mode m 3; end"), 3);
        x.ticks(3);
        x.press(0);
        T.due("4 the rules of then", x.score(), 8);
        T.due("16 they are told again", x.again(), 8);
    }
}
