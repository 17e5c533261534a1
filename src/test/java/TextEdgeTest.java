/**
 * The edges that the document names of the tape and of the text on it (THE TABLE, TOKENS, FAULTS, promises 1
 * to 5), sentence by sentence. FaultTest has more texts with faults.
 */
public final class TextEdgeTest {
    private static final Tally T = new Tally("TextEdgeTest");
    private static final int NONE = SilverBall.NONE;
    private static final String[] WORDS = {"switch", "coil", "apart", "lamp", "place", "way", "var", "mode", "by",
        "time", "end", "on", "begin", "stop", "if", "and", "score", "set", "start", "leave", "fire", "hold", "drain",
        "serve", "tilt", "left", "balls"};

    private TextEdgeTest() {
    }

    public static void main(String[] args) {
        newObject();
        feedOrder();
        feedFull();
        back();
        readEmptiesTheTape();
        textOf4000Bytes();
        place();
        bytesBetweenParts();
        bytesOfNames();
        bytesOfInts();
        bytesOfSigns();
        signsOfTwoBytes();
        longestTokens();
        wordsAreNoNames();
        lengthOfNames();
        lengthOfInts();
        listsThatMayBeEmpty();
        textsEnd();
        firstFaultByItsPlace();
        leastFaultOfOnePlace();
        syntaxAndRoomAheadOfNames();
        sameKindAgain();
        fullTable();
        partsOverTheRoom();
        thousandTokens();
        acts();
        brackets();
        twice();
        told();
        startOfAnyMode();
        wrong();
        faultChangesNothing();
        newTable();
        tableBehindTable();
        namesBehindNames();
        T.close();
    }

    private static void due(String label, String text, int fault, int place) {
        SilverBall x = new SilverBall();
        T.due("4 " + label, Tally.read(x, text), fault);
        T.due("5 " + label, x.place(), place);
        T.due("4 a table came only without a fault: " + label, x.begin(), fault == 0);
    }

    private static void due(String label, String text, int fault) {
        due(label, text, fault, NONE);
    }

    /** The fault is due where a '^' stands in the text. */
    private static void dueAt(String label, int fault, String marked) {
        int place = marked.indexOf('^');
        due(label, marked.substring(0, place) + marked.substring(place + 1), fault, place);
    }

    private static String times(int n, String one) {
        StringBuilder all = new StringBuilder();
        for (int i = 0; i < n; i++) {
            all.append(one.replace("#", "" + i));
        }
        return all.toString();
    }

    // "No TABLE; no game."

    private static void newObject() {
        SilverBall x = new SilverBall();
        T.due("1 no table: begin", x.begin(), false);
        T.due("1 no table: still no game behind a begin", x.score(), NONE);
        T.due("1 no table: told of a switch's bounce", x.told(0, 3), NONE);
        T.due("1 no table: a mode's rank", x.mode(0, 3), NONE);
        T.due("1 no game: value", x.value(0), 0);
        T.due("1 the tape is empty", x.count(15), 0);
        T.due("1 no fault", x.place(), NONE);
        T.due("1 NONE", SilverBall.NONE, -1);
    }

    // "Twenty bytes, the highest of a first, come behind the tape: how many it has."

    private static void feedOrder() {
        for (int at = 0; at < 20; at++) {
            int[] five = {0x20202020, 0x20202020, 0x20202020, 0x20202020, 0x20202020};
            // a byte above 127 too, whose int is below 0 when it is the highest
            five[at / 4] = five[at / 4] & ~(255 << 24 - at % 4 * 8) | 233 << 24 - at % 4 * 8;
            SilverBall x = new SilverBall();
            T.due("2 first feed", x.feed(five[0], five[1], five[2], five[3], five[4]), 20);
            T.due("2 byte " + at, x.read(), 1);
            T.due("2 byte " + at + " is at its place", x.place(), at);
            x.feed(0x20202020, 0x20202020, 0x20202020, 0x20202020, 0x20202020);
            T.due("2 second feed", x.feed(five[0], five[1], five[2], five[3], five[4]), 40);
            x.read();
            T.due("2 byte " + at + " comes behind the tape", x.place(), 20 + at);
        }
    }

    // "NONE, and nothing comes, if it would have more than 4,000."

    private static void feedFull() {
        SilverBall x = new SilverBall();
        for (int i = 0; i < 199; i++) {
            x.feed(0x20202020, 0x20202020, 0x20202020, 0x20202020, 0x20202020);
        }
        x.feed(0x20202020, 0x20202020, 0x20202020, 0x20202020, 0x20202020);
        x.back(19);
        T.due("2 3981 and 20 are more than 4000", x.feed(-1, -1, -1, -1, -1), NONE);
        T.due("2 nothing came", x.count(15), 3981);
        x.back(1);
        T.due("2 3980 and 20 are not", x.feed(0x20202020, 0x20202020, 0x20202020, 0x20202020, 0x20202020), 4000);
        T.due("2 4000 and 20", x.feed(-1, -1, -1, -1, -1), NONE);
        T.due("2 nothing came then", x.count(15), 4000);
        T.due("2 no byte of what did not come was read", x.read(), 0);
        T.due("2 an empty tape has room again", x.feed(0, 0, 0, 0, 0), 20);
    }

    // "The last n bytes of the tape go: how many it has. NONE, and nothing goes, if it has not so many, or n is below 0."

    private static void back() {
        SilverBall x = new SilverBall();
        T.due("3 none of an empty tape", x.back(0), 0);
        T.due("3 one of an empty tape", x.back(1), NONE);
        x.feed(0x76617220, 0x61203132, 0x3b212121, 0x21212121, 0x21212121);
        T.due("3 one more than there are", x.back(21), NONE);
        T.due("3 the most that an int can tell", x.back(Integer.MAX_VALUE), NONE);
        T.due("3 one below 0", x.back(-1), NONE);
        T.due("3 the least int", x.back(Integer.MIN_VALUE), NONE);
        T.due("3 nothing went", x.count(15), 20);
        T.due("3 none", x.back(0), 20);
        T.due("3 the last eleven", x.back(11), 9);
        T.due("3 ten are not there any more", x.back(10), NONE);
        T.due("3 the first nine stayed", x.read(), 0);
        x.begin();
        T.due("3 as they were fed", x.value(0), 12);
        x.feed(0, 0, 0, 0, 0);
        T.due("3 all", x.back(20), 0);
        T.due("3 an empty text", x.read(), 0);
    }

    // "The tape, which is empty then, is read"

    private static void readEmptiesTheTape() {
        SilverBall x = new SilverBall();
        x.feed(0, 0, 0, 0, 0);
        T.due("4 a fault", x.read(), 1);
        T.due("4 empty behind a fault", x.count(15), 0);
        T.due("4 nothing to go back", x.back(1), NONE);
        T.due("4 the next text begins at byte 0", Tally.read(x, "$"), 1);
        T.due("5 at byte 0", x.place(), 0);
        T.due("4 without a fault", Tally.read(x, "var a 1;"), 0);
        T.due("4 empty then too", x.count(15), 0);
        T.due("4 the same text is not read again", x.read(), 0);
        T.due("4 an empty text is a table", x.count(4), 0);
        T.due("6 on which a game begins", x.begin(), true);
    }

    // "THE TABLE is a text of at most 4,000 bytes."

    private static void textOf4000Bytes() {
        due("4000 bytes", "var a 1;" + " ".repeat(3984) + "var b 2;", 0);
        due("the last of 4000 is a fault", " ".repeat(3999) + "$", 1, 3999);
        due("the end of 4000", "var a 1" + " ".repeat(3993), 1, 4000);
        due("a token up to the end of 4000", "var " + " ".repeat(3995) + "a", 1, 4000);
        due("a name of 3996 letters", "var " + "a".repeat(3996), 1, 4);
        due("an int of 3990 digits", "var a 9" + "0".repeat(3989), 1, 6);
        due("one bracket behind another", "mode m 0; on begin: score " + "(".repeat(3974), 2, 32);
    }

    // "The byte of the latest read()'s FAULT; NONE without."

    private static void place() {
        SilverBall x = new SilverBall();
        Tally.read(x, "var a $");
        T.due("5 its byte", x.place(), 6);
        x.feed(0, 0, 0, 0, 0);
        x.back(20);
        T.due("5 of the latest read, whatever was fed", x.place(), 6);
        Tally.read(x, "var $");
        T.due("5 of the latest of two", x.place(), 4);
        x.read();
        T.due("5 none without a fault", x.place(), NONE);
    }

    private static boolean isBlank(int sign) {
        return sign == 9 || sign == 10 || sign == 13 || sign == 32;
    }

    private static boolean isLetter(int sign) {
        return sign >= 'a' && sign <= 'z';
    }

    private static boolean isDigit(int sign) {
        return sign >= '0' && sign <= '9';
    }

    // "with blanks (9, 10, 13, 32) between or not", "all else, is no TOKEN"

    private static void bytesBetweenParts() {
        for (int sign = 0; sign < 256; sign++) {
            String text = "var a 1;" + (char) sign + "var b 1;";
            due("byte " + sign + " between parts", text, isBlank(sign) ? 0 : 1, isBlank(sign) ? NONE : 8);
            String behind = "var a 1;" + (char) sign;
            due("byte " + sign + " behind all", behind, isBlank(sign) ? 0 : 1, isBlank(sign) ? NONE : 8);
        }
        due("no blanks", "var a 1;var b 1;mode m 0;on begin:hold,hold;end", 0);
        due("many blanks", "\n\n var\t\t\ta\r\n1 \n ; \t", 0);
    }

    // "NAMES (a letter a .. z, then letters and digits"

    private static void bytesOfNames() {
        for (int sign = 0; sign < 256; sign++) {
            boolean inName = isLetter(sign) || isDigit(sign);
            int place = inName ? NONE : isBlank(sign) ? 6 : 5;
            due("byte " + sign + " within a name", "var a" + (char) sign + "c 1;", inName ? 0 : 1, place);
            boolean first = isLetter(sign) || isBlank(sign);
            due("byte " + sign + " first in a name", "var " + (char) sign + "c 1;", first ? 0 : 1, first ? NONE : 4);
        }
    }

    // "INTS (1 to 5 digits)"

    private static void bytesOfInts() {
        for (int sign = 0; sign < 256; sign++) {
            boolean fits = isDigit(sign) || isBlank(sign);
            due("byte " + sign + " first in an int", "var a " + (char) sign + "1;", fits ? 0 : 1, fits ? NONE : 6);
            int place = sign == ';' ? NONE : fits ? 8 : 7;
            due("byte " + sign + " behind an int", "var a 1" + (char) sign, sign == ';' ? 0 : 1, place);
        }
    }

    // "SIGNS ; : , ( ) + - * == != < <= ."

    private static void bytesOfSigns() {
        String ahead = "mode m 0; on begin: score 1";
        for (int sign = 0; sign < 256; sign++) {
            boolean joins = sign == '+' || sign == '-' || sign == '*' || isDigit(sign);
            boolean passes = isBlank(sign) || sign == ',' || sign == ';';
            int place = joins ? NONE : ahead.length() + (passes ? 1 : 0);
            due("byte " + sign + " in a sum", ahead + (char) sign + "2; end", joins ? 0 : 1, place);
        }
        ahead = "mode m 0; on begin if 1";
        for (int sign = 0; sign < 256; sign++) {
            boolean joins = sign == '+' || sign == '-' || sign == '*' || isDigit(sign);
            int place = sign == '<' ? NONE : ahead.length() + (joins ? 2 : isBlank(sign) ? 1 : 0);
            due("byte " + sign + " in a cond", ahead + (char) sign + "2: hold; end", sign == '<' ? 0 : 1, place);
        }
        due("brackets", "mode m 0; on begin: score (1); end", 0);
        due("a colon is no comma", "mode m 0; on begin: hold: hold; end", 1, 24);
    }

    private static void signsOfTwoBytes() {
        String ahead = "mode m 0; on begin if 1";
        for (int sign = 0; sign < 256; sign++) {
            boolean joins = sign == '=' || sign == '!' || sign == '<';
            boolean passes = isBlank(sign) || isDigit(sign) || sign == '+' || sign == '-' || sign == '*';
            int place = joins ? NONE : ahead.length() + (passes ? 1 : 0);
            due("byte " + sign + " ahead of =", ahead + (char) sign + "=2: hold; end", joins ? 0 : 1, place);
        }
        dueAt("two bytes of one sign", 1, ahead + "^= =2: hold; end");
        dueAt("<= with a blank is < and what is none", 1, ahead + "< ^=2: hold; end");
        dueAt("<> is < and what is none", 1, ahead + "<^>2: hold; end");
        dueAt("=< is none", 1, ahead + "^=<2: hold; end");
    }

    // "TOKENS, the longest that can be"

    private static void longestTokens() {
        dueAt("switcha is a name", 1, "^switcha 1;");
        dueAt("ona is a name", 1, "mode m 0; ^ona: hold; end");
        dueAt("12 is one int", 1, "var a 1 ^2;");
        due("1if is an int and a word", "mode m 0; on begin if 1<2and 3<4: hold; end", 0);
        due("<=- is two signs", "mode m 0; on begin if 1<=-2: hold; end", 0);
        due("==( is two signs", "mode m 0; on begin if 1==(2): hold; end", 0);
        dueAt("=== is == and what is none", 1, "mode m 0; on begin if 1==^=2: hold; end");
        due("end and a text's end", "mode m 0; end", 0);
        dueAt("endend is a name", 1, "mode m 0; ^endend");
    }

    // "none of the words in quotes"

    private static void wordsAreNoNames() {
        for (String word : WORDS) {
            due("the word " + word, "var " + word + " 1;", 1, 4);
            due("a name that begins with " + word, "var " + word + "0 1;", 0);
            due("a name that ends with " + word, "var a" + word + " 1;", 0);
            due("a name short of " + word, "var " + word.substring(0, word.length() - 1) + "q 1;", 0);
        }
    }

    // "at most 8", "A longer NAME .. is no TOKEN"

    private static void lengthOfNames() {
        due("one letter", "var a 1;", 0);
        due("eight", "var abcdefgh 1;", 0);
        due("eight with digits", "var a2345678 1;", 0);
        dueAt("nine", 1, "var ^abcdefghi 1;");
        dueAt("nine with digits", 1, "var ^a23456789 1;");
        dueAt("a word within nine", 1, "^switchabc a 1;");
        due("names that differ in their eighth", "var abcdefgh 1; var abcdefgi 1;", 0);
        dueAt("names that do not", 3, "var abcdefgh 1; var ^abcdefgh 1;");
        due("names of another length", "var a 1; var aa 1; var aaa 1; var aaaaaaa 1; var aaaaaaaa 1;", 0);
    }

    // "INTS (1 to 5 digits)", "A longer .. INT .. is no TOKEN"

    private static void lengthOfInts() {
        String[] ints = {"0", "7", "10", "999", "4321", "99999", "00000", "00012", "10000"};
        int[] worth = {0, 7, 10, 999, 4321, 99999, 0, 12, 10000};
        for (int i = 0; i < ints.length; i++) {
            SilverBall x = Tally.playing("var v " + ints[i] + ";");
            T.due("4 the int " + ints[i], x.value(0), worth[i]);
        }
        dueAt("six digits", 1, "var v ^100000;");
        dueAt("six digits of little worth", 1, "var v ^000001;");
        dueAt("six digits in a sum", 1, "mode m 0; on begin: score ^123456; end");
        dueAt("more digits than a long holds", 1, "var v ^99999999999999999999;");
    }

    // "text: {PART} {MODE}", "{RULE}", "{',' ACT}", "{'and' REL}", "['-']": none, one, more

    private static void listsThatMayBeEmpty() {
        due("nothing", "", 0);
        due("blanks alone", " \n\t\r", 0);
        due("parts without modes", "place p;", 0);
        due("modes without parts", "mode m 0; end mode n 0; end", 0);
        due("a mode without rules", "mode m 0; end", 0);
        due("parts of all sorts in any order", "var v 0; place p; switch s 0; coil c 0; lamp l s; switch t 0; place q;"
                + "way p q; var w 0; lamp k t; coil d 0; apart c d; way q p by t; way p q by s;", 0);
        dueAt("a part behind a mode", 1, "mode m 0; end ^var v 0;");
        dueAt("a rule without acts", 1, "mode m 0; on begin: ^; end");
        dueAt("an act behind a comma", 1, "mode m 0; on begin: hold, ^; end");
        dueAt("a cond without rels", 1, "mode m 0; on begin if ^: hold; end");
        dueAt("a rel behind and", 1, "mode m 0; on begin if 1 < 2 and ^: hold; end");
        due("three rels", "mode m 0; on begin if 1 < 2 and 2 <= 3 and 3 != 4: hold; end", 0);
        due("a minus first in each E", "mode m 0; on begin if -1 < -2 * (-3): score -4; end", 0);
        dueAt("two of them", 1, "mode m 0; on begin: score -^-4; end");
        dueAt("one behind a sign", 1, "mode m 0; on begin: score 1 * ^-4; end");
    }

    // "the text's end: its length"

    private static void textsEnd() {
        due("behind a word", "var", 1, 3);
        due("behind blanks", "var   ", 1, 6);
        due("within a mode", "mode m 0;", 1, 9);
        due("behind a rule", "mode m 0; on begin: hold;\n", 1, 26);
        due("a longer name ahead of it", "var abcdefghi", 1, 4);
    }

    // "FAULTS, the first by its place"

    private static void firstFaultByItsPlace() {
        dueAt("syntax ahead of room", 1, "var a ^; " + times(17, "place p#;"));
        dueAt("room ahead of syntax", 2, times(8, "place p#;") + "^place p8; var a ;");
        dueAt("twice ahead of name", 3, "var a 1; var ^a 1; lamp l x;");
        dueAt("name ahead of twice", 4, "var a 1; lamp l ^x; var a 1;");
        dueAt("wrong ahead of name", 5, "coil c 1; apart c ^c; lamp l x;");
        dueAt("name ahead of wrong", 4, "coil c 1; lamp l ^x; apart c c;");
        dueAt("wrong ahead of twice", 5, "coil c 1; apart c ^c; coil c 1;");
        dueAt("the first of two rooms", 2, times(8, "place p#;") + "^place p8;" + times(9, "coil c#;"));
    }

    // "of one place the least"

    private static void leastFaultOfOnePlace() {
        dueAt("a 17th switch where none may be", 1, times(16, "switch a# 0;") + "mode m 0; end ^switch b 0;");
        dueAt("a 13th mode within a mode", 1, times(12, "mode a# 0; end ").replaceAll("end $", "^mode b 0; end"));
        dueAt("a 7th bracket where none may be", 1, "mode m 0; on begin: score ((((((1^(2))))))); end");
        dueAt("a 13th act that is none", 1, "mode m 0; on begin: hold" + times(11, ", hold") + ", ^end");
        dueAt("a 1,001st token with which no text goes on", 1, thousand() + "^;");
        dueAt("a 1,001st that is none", 1, thousand() + "^$");
    }

    /** A text of a thousand tokens, without a fault. */
    private static String thousand() {
        return "mode m 0;on begin:score -1" + times(494, "+1") + ";end";
    }

    // "If there is none, likewise"

    private static void syntaxAndRoomAheadOfNames() {
        dueAt("syntax behind twice", 1, "var a 1; var a 1; var ^;");
        dueAt("room behind name", 2, "lamp l x;" + times(8, "place p#;") + "^place p8;");
        dueAt("syntax at the end behind wrong", 1, "coil c 1; apart c c; mode m 0; ^");
    }

    /** Rooms are counted by themselves for each sort, and anew for each text. */
    private static void sameKindAgain() {
        SilverBall x = new SilverBall();
        for (int i = 0; i < 3; i++) {
            T.due("4 sixteen switches", Tally.read(x, times(16, "switch a# 0;")), 0);
            T.due("4 seventeen", Tally.read(x, times(17, "switch a# 0;")), 2);
            T.due("4 eighty rules", Tally.read(x, "mode m 0;" + times(80, "on begin:hold;") + "end"), 0);
        }
    }

    private static String full() {
        StringBuilder ways = new StringBuilder();
        for (int i = 0; i < 23; i++) {
            ways.append("way d0 d1 by a").append(i % 15).append(';');
        }
        return times(16, "switch a# 1#;") + times(8, "coil b# 1#;") + times(7, "apart b# b7;") + "apart b0 b1;"
                + times(16, "lamp c# a#;") + times(8, "place d#;") + ways + "way d1 d7 by a15;" + times(16, "var e# 1#;")
                + times(11, "mode f# #;end ") + "mode f11 11;" + times(79, "on a0:hold;")
                + "on a15:fire b6,fire b7,fire b0,fire b1,fire b2,fire b3,fire b4,fire b5,"
                + "start f10,set e15 e15+1,start f9,score 5;end";
    }

    /** As much of all as there is room for, and all of it works. */
    private static void fullTable() {
        SilverBall x = new SilverBall();
        String text = full().replace("mode f0 0;end", "mode f0 0;on begin:start f11;end").replaceFirst("on a0:hold;", "");
        T.due("4 a full table", Tally.read(x, text), 0);
        int[] many = {16, 8, 16, 8, 16, 12, 80};
        for (int what = 0; what < many.length; what++) {
            T.due("18 full " + what, x.count(what), many[what]);
        }
        x.begin();
        T.due("10 the 16th switch's bounce", x.told(15, 3), 115);
        T.due("10 no 17th", x.told(16, 3), NONE);
        T.due("14 the 12th mode's rank", x.mode(11, 3), 11);
        T.due("14 no 13th", x.mode(12, 3), NONE);
        T.due("13 the 16th var", x.value(15), 115);
        T.due("13 no 17th", x.value(16), 0);
        T.due("12 the 16th lamp", x.lamp(15), 1);
        T.due("12 no 17th", x.lamp(16), NONE);
        T.due("15 the 8th place", x.balls(7, true), 0);
        T.due("15 no 9th", x.balls(8, true), NONE);
        T.due("11 the 8th coil", x.coil(7, 0), 0);
        T.due("11 no 9th", x.coil(8, 0), NONE);
        T.due("7 the 1st switch", x.press(0), 1);
        T.due("15 by the 1st way", x.balls(1, false), 1);
        T.due("7 the 16th switch", x.press(15), 1);
        T.due("15 by the 24th way", x.balls(7, false), 1);
        T.due("9 the 12th act of the 80th rule", x.score(), 5);
        T.due("13 the 10th act", x.value(15), 116);
        T.due("14 the 9th act", x.mode(10, 0), 1);
        T.due("11 eight wait", x.coil(5, 2), 7);
        T.due("8 but b7, by the 7th apart, and b1, by the 8th", x.ticks(1), 6);
        T.due("11 the 8th coil waits", x.coil(7, 2), 0);
        T.due("11 the 2nd too", x.coil(1, 2), 1);
    }

    // "a 17th switch, 9th coil, 9th apart, 17th lamp, 9th place, 25th way, 17th var, 13th mode, 81st RULE"

    private static void partsOverTheRoom() {
        due("a full table", full(), 0);
        String text = full();
        int modes = text.indexOf("mode");
        String[] more = {"switch x 0;", "coil x 0;", "apart b0 b1;", "lamp x a0;", "place x;", "way d0 d1;", "var x 0;"};
        for (String one : more) {
            due("one more: " + one, text.substring(0, modes) + one + text.substring(modes), 2, modes);
        }
        due("one more mode", text + " mode x 0; end", 2, text.length() + 1);
        due("one more rule", text.substring(0, text.length() - 3) + "on a0:hold;end", 2, text.length() - 3);
    }

    // "a 1,001st TOKEN"

    private static void thousandTokens() {
        due("a thousand tokens", thousand(), 0);
        due("a thousand tokens and blanks", thousand() + " \n ", 0);
        dueAt("one more", 2, thousand() + " ^mode x 0; end");
        dueAt("one more within a sum", 2, "mode m 0;on begin:score -1" + times(495, "+1") + "^;end");
        SilverBall x = Tally.playing(thousand());
        T.due("9 the last of a thousand is worked out", x.score(), 493);
    }

    // "a 13th ACT of a RULE (at its first TOKEN)"

    private static void acts() {
        String twelve = "mode m 0; on begin: hold" + times(11, ", score 1");
        due("twelve acts", twelve + "; end", 0);
        dueAt("thirteen", 2, twelve + ", ^score 1; end");
        for (String word : new String[] {"score", "set", "start", "leave", "fire", "hold", "drain", "serve", "tilt"}) {
            dueAt("a 13th, " + word, 2, twelve + ", ^" + word);
        }
        due("twelve in each of two rules", twelve + "; on stop: hold" + times(11, ", hold") + "; end", 0);
        dueAt("thirteen in the second rule", 2, twelve + "; on stop: hold" + times(11, ", hold") + ", ^tilt; end");
    }

    // "a 7th ( within one another (at it)"

    private static void brackets() {
        String ahead = "mode m 0; on begin: score ";
        due("six", ahead + "((((((1)))))); end", 0);
        dueAt("seven", 2, ahead + "((((((^(1))))))); end");
        due("seven, not within one another", ahead + "((((((1))))) * (1)); end", 0);
        due("six, and six again", ahead + "((((((1)))))) + ((((((1)))))), score ((((((1)))))); end", 0);
        due("six on both sides of a rel", "mode m 0; on begin if ((((((1)))))) < ((((((2)))))): hold; end", 0);
        dueAt("seven on the second side", 2, "mode m 0; on begin if 1 < ((((((^(2))))))): hold; end");
        dueAt("seven in a set", 2, "var v 0; mode m 0; on begin: set v ((((((^(2))))))); end");
        dueAt("the seventh behind others that are closed", 2, ahead + "(((((1) + (2)) + (3))) * (((((^(1))))))); end");
        SilverBall x = Tally.playing(ahead + "2 * (3 + 2 * (3 + 2 * (3 + 2 * (3 + 2 * (3 + 2 * (3 - 1)))))); end");
        T.due("9 six within one another are worked out", x.score(), 314);
    }

    // "3 TWICE: a NAME told already (whatever sort; it stays what it was first)"

    private static void twice() {
        String[] tellings = {"switch x 0;", "coil x 0;", "lamp x s;", "place x;", "var x 0;", "mode x 0; end"};
        for (String first : tellings) {
            for (String second : tellings) {
                boolean behind = first.startsWith("mode") && !second.startsWith("mode");
                String text = "switch s 0; " + first + " " + second;
                int place = text.lastIndexOf('x');
                due(first + second, text, behind ? 1 : 3, behind ? place - second.indexOf('x') : place);
            }
        }
        dueAt("it stays a var", 4, "var n 0; mode m 0; on begin: start ^n; end mode n 0; end");
        due("names of an apart and a way tell nothing", "coil c 0; coil d 0; apart c d; apart d c; apart c d;", 0);
    }

    // "4 NAME: none told so, or of another sort than wanted", "A NAME is told ahead of where it is used"

    private static void told() {
        String heads = "switch s 0; coil c 0; place p; var v 0; lamp l s; ";
        String[] uses = {"lamp x ^%;", "apart ^% c;", "apart c ^%;", "way ^% p;", "way p ^%;",
            "place q; way p q by ^%;", "mode m 0; on ^%: hold; end", "mode m 0; on begin: fire ^%; end",
            "mode m 0; on begin: set ^% 1; end", "mode m 0; on begin: score ^%; end", "mode m 0; on begin: start ^%; end",
            "mode m 0; on begin if 1 < ^%: hold; end"};
        String sorts = "sccppsscvvmv";
        for (int i = 0; i < uses.length; i++) {
            for (char name : "scpvlmy".toCharArray()) {
                if (name != sorts.charAt(i)) {
                    dueAt("of another sort, or none", 4, heads + uses[i].replace('%', name));
                } else if (i != 1 && i != 2 && i != 3 && i != 4) {
                    due("of the sort", heads + uses[i].replace("^", "").replace('%', name), 0);
                }
            }
        }
        dueAt("a switch told behind", 4, "lamp l ^s; switch s 0;");
        dueAt("a coil told behind", 4, "coil c 0; apart c ^d; coil d 0;");
        dueAt("a place told behind", 4, "place p; way p ^q; place q;");
        dueAt("told just there", 4, "lamp l ^l;");
        dueAt("a mode in a sum", 4, "mode m 0; on begin: score ^m; end");
    }

    // "but for a MODE behind 'start' (any MODE of the text)"

    private static void startOfAnyMode() {
        due("the first, its own, the last", "mode m 0; on begin: start m, start n, start o; end mode n 0;"
                + "on begin: start m, start n, start o; end mode o 0; end", 0);
        dueAt("one of no mode", 4, "mode m 0; on begin: start ^n; end mode o 0; end");
        dueAt("one of a text ahead", 4, "mode m 0; on begin: start ^o; end");
        SilverBall x = Tally.playing("mode m 0; on begin: start o; end mode n 0; end mode o 0; end");
        T.due("14 the one that was named", x.mode(2, 0), 1);
        T.due("14 no other", x.mode(1, 0), 0);
    }

    // "5 WRONG: at the second NAME of apart, of way: the first one's; at a TIME: 0"

    private static void wrong() {
        dueAt("apart", 5, "coil c 0; apart c ^c;");
        dueAt("way", 5, "place p; way p ^p;");
        dueAt("way by", 5, "switch s 0; place p; way p ^p by s;");
        dueAt("time 0", 5, "mode m 0 time ^0; end");
        dueAt("time 00", 5, "mode m 0 time ^00; end");
        dueAt("the time of a second mode", 5, "mode m 0 time 1; end mode n 0 time ^0; end");
        due("time 1, rank 0, bounce 0, rest 0, first 0", "switch s 0; coil c 0; var v 0; mode m 0 time 1; end", 0);
        due("another one", "coil c 0; coil d 0; apart c d; place p; place q; way p q; way q p;", 0);
        due("0 in rules", "mode m 0; on begin: score 0; end", 0);
    }

    // "A text with a FAULT changes nothing."

    private static void faultChangesNothing() {
        SilverBall x = Tally.playing("switch a 3; coil c 0; lamp l a; place p; place q; way p q by a; var v 5;"
                + "mode m 2 time 9; on begin: start m; on a: score v, fire c; end");
        x.press(0);
        x.ticks(2);
        String[] bad = {"switch a 9; $", times(9, "place p#;"), "switch a 7; switch b 8; switch a 9;", "lamp l x;",
            "coil b 4; coil c 4; apart c c;", "mode m 5 time 0; on begin: hold; end"};
        int[] faults = {1, 2, 3, 4, 5, 5};
        for (int i = 0; i < bad.length; i++) {
            T.due("4 fault " + faults[i], Tally.read(x, bad[i]), faults[i]);
            int[] want = {1, 1, 1, 2, 1, 1, 2, 1, 1, 2, 1, 0, 0, 0, 1, 0};
            for (int what = 0; what < want.length; what++) {
                T.due("4 count " + what + " stays behind fault " + faults[i], x.count(what), want[what]);
            }
            T.due("4 the bounce stays", x.told(0, 3), 3);
            T.due("4 the rank stays", x.mode(0, 3), 2);
            T.due("4 the time left stays", x.mode(0, 1), 7);
            T.due("4 the score stays", x.score(), 5);
            T.due("4 the log stays", x.again(), 5);
            T.due("4 the ring stays", x.ring(), 0);
            T.due("4 the layouts stay", x.balls(1, false), 1);
            T.due("4 a coil's tick stays", x.coil(0, 1), 1);
            T.due("4 a lamp stays", x.lamp(0), 1);
        }
        x.ticks(1);
        T.due("4 the game goes on", x.press(0), 1);
        T.due("4 by its rules", x.score(), 10);
    }

    // "Else it is the TABLE; there is no game."

    private static void newTable() {
        SilverBall x = Tally.playing("switch a 3; switch b 4; var v 5; mode m 2; end");
        x.press(0);
        T.due("4 another", Tally.read(x, "switch c 7;"), 0);
        T.due("10 its switch", x.told(0, 3), 7);
        T.due("10 it has one alone", x.told(1, 3), NONE);
        T.due("14 it has no mode", x.mode(0, 3), NONE);
        T.due("9 no game", x.score(), NONE);
        T.due("7 no game to press in", x.press(0), NONE);
        T.due("8 nor to tick in", x.ticks(1), NONE);
        T.due("16 nor a log", x.again(), NONE);
        T.due("10 nor counted", x.told(0, 0), NONE);
        T.due("18 no ball", x.count(7), 0);
        T.due("6 till it begins", x.begin(), true);
        T.due("18 a log of its own", x.count(14), 0);
        T.due("4 the same text again", Tally.read(x, "switch c 7;"), 0);
        T.due("9 ends the game too", x.score(), NONE);
    }

    /** Nothing of an earlier table is left in a later one. */
    private static void tableBehindTable() {
        String rich = "switch a 1; switch b 2; coil c 9; coil d 9; lamp l b; place p; place q; place r; way p q; way p r;"
                + "var v 5; mode m 6 time 4; on b: score 1; on b: hold; on begin: start m; end mode n 9; end";
        SilverBall x = Tally.playing(rich);
        T.due("17 a ring", x.ring(), 0);
        T.due("18 three layouts", x.count(10), 3);
        T.due("12 lit", x.lamp(0), 1);
        Tally.read(x, "switch e 0; switch f 0; coil g 0; lamp h f; lamp i e; place j; place k; var w 2;"
                + "mode o 0; on f: fire g; on e: set w w + 1; on e: score w; end mode y 0; end");
        x.begin();
        T.due("17 a table without rings behind one with", x.ring(), NONE);
        T.due("18 without silent ways behind one with", x.count(10), 1);
        T.due("12 its first rule does not pay", x.lamp(0), 0);
        T.due("12 its second rule holds nothing", x.lamp(1), 1);
        T.due("14 its mode 0 has no time", x.mode(0, 1), 0);
        T.due("14 nor such a rank", x.mode(1, 3), 0);
        T.due("7 the second switch", x.press(1), 1);
        T.due("11 has its rule", x.coil(0, 2), 0);
        T.due("8 the coil fires in each tick", x.ticks(1), 1);
        x.press(0);
        T.due("13 the first switch has two", x.value(0), 3);
        T.due("9 and no hold", x.score(), 3);
        Tally.read(x, "switch a 0;");
        x.begin();
        T.due("18 without places behind one with", x.count(10), 0);
        Tally.read(x, rich);
        T.due("17 the first table again", x.ring(), 0);
        x.begin();
        T.due("18 with its layouts", x.count(10), 3);
        T.due("14 and its time", x.mode(0, 1), 4);
    }

    private static void namesBehindNames() {
        SilverBall x = new SilverBall();
        Tally.read(x, "var v 0; mode m 0; end mode n 0; end mode o 0; end");
        T.due("4 a mode of the text ahead", Tally.read(x, "mode m 0; on begin: start o; end"), 4);
        T.due("5 at its name", x.place(), 26);
        T.due("4 a var of the text ahead", Tally.read(x, "mode m 0; on begin: score v; end"), 4);
        T.due("5 at its name too", x.place(), 26);
        T.due("4 a name of the text ahead is free", Tally.read(x, "switch m 0; switch v 0; mode o 0; on v: score 2; end"), 0);
        x.begin();
        x.press(0);
        T.due("9 the first is another switch", x.score(), 0);
        x.press(1);
        T.due("9 the second of this text", x.score(), 2);
    }
}
