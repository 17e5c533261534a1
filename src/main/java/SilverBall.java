/**
 * A rules machine for a table with silver balls. A table is fed as a text onto a tape and read;
 * then games are played on it by presses of its switches and by ticks.
 */
public final class SilverBall {
    public static final int NONE = -1;

    private static final int MOST_BYTES = 4000;
    private static final int BYTES_OF_A_FEED = 20;
    private static final int MOST_TOKENS = 1000;
    private static final int MOST_SWITCHES = 16;
    private static final int MOST_COILS = 8;
    private static final int MOST_APARTS = 8;
    private static final int MOST_LAMPS = 16;
    private static final int MOST_PLACES = 8;
    private static final int MOST_WAYS = 24;
    private static final int MOST_VARS = 16;
    private static final int MOST_MODES = 12;
    private static final int MOST_RULES = 80;
    private static final int MOST_ACTS_OF_A_RULE = 12;
    private static final int MOST_OPEN = 6;
    private static final int MOST_NAMES =
            MOST_SWITCHES + MOST_COILS + MOST_LAMPS + MOST_PLACES + MOST_VARS + MOST_MODES;
    private static final int LONGEST_NAME = 8;
    private static final int LONGEST_INT = 5;

    private static final int MOST_IN_PLAY = 3;
    private static final int MOST_BALLS = 3;
    private static final int MOST_WITHIN = 8;
    private static final int MOST_ACTS = 200;
    private static final int MOST_PRESSES = 600;
    private static final int MOST_TICKS = 5000;
    private static final int MOST_TICKS_OF_A_CALL = 100;

    private static final int FAULT_SYNTAX = 1;
    private static final int FAULT_ROOM = 2;
    private static final int FAULT_TWICE = 3;
    private static final int FAULT_NAME = 4;
    private static final int FAULT_WRONG = 5;

    /** The words of the language; a word's place in this row is its kind, one of those below. */
    private static final String WORDS =
            "switch coil apart lamp place way var mode by time end on begin stop if and score set start leave fire hold drain serve tilt left balls ";
    private static final int SWITCH = 0;
    private static final int COIL = 1;
    private static final int APART = 2;
    private static final int LAMP = 3;
    private static final int PLACE = 4;
    private static final int WAY = 5;
    private static final int VAR = 6;
    private static final int MODE = 7;
    private static final int BY = 8;
    private static final int TIME = 9;
    private static final int END = 10;
    private static final int ON = 11;
    private static final int BEGIN = 12;
    private static final int STOP = 13;
    private static final int IF = 14;
    private static final int AND = 15;
    private static final int SCORE = 16;
    private static final int SET = 17;
    private static final int START = 18;
    private static final int LEAVE = 19;
    private static final int FIRE = 20;
    private static final int HOLD = 21;
    private static final int DRAIN = 22;
    private static final int SERVE = 23;
    private static final int TILT = 24;
    private static final int LEFT = 25;
    private static final int BALLS = 26;
    private static final int WORD_COUNT = 27;
    private static final int NAME = 27;
    private static final int INT = 28;
    private static final int SEMICOLON = 29;
    private static final int COLON = 30;
    private static final int COMMA = 31;
    private static final int OPEN = 32;
    private static final int CLOSE = 33;
    private static final int PLUS = 34;
    private static final int MINUS = 35;
    private static final int TIMES = 36;
    private static final int EQUAL = 37;
    private static final int UNEQUAL = 38;
    private static final int LESS = 39;
    private static final int AT_MOST = 40;
    private static final int TEXT_END = 41;
    private static final int NO_TOKEN = 42;

    /** What a rule is on, where that is no switch (those are told by their numbers). */
    private static final int ON_BEGIN = -1;
    private static final int ON_STOP = -2;

    private final byte[] tape = new byte[MOST_BYTES];
    private int taped = 0;
    private final Text text = new Text();
    private final Grammar grammar = new Grammar(text);
    private final Names names = new Names(text);
    private int faultPlace = NONE;

    private final Table table = new Table();
    private boolean hasTable = false;
    private final Game game = new Game(table, true);
    private boolean playing = false;

    /** The game's presses, each with the tick at which it came; the ticks between them are told by that. */
    private final int[] logSwitches = new int[MOST_PRESSES];
    private final int[] logTicks = new int[MOST_PRESSES];
    private int logged = 0;
    /** A second game on the same table, in which the log is played once more for its score alone. */
    private final Game replay = new Game(table, false);

    public SilverBall() {
    }

    public int feed(int a, int b, int c, int d, int e) {
        if (taped + BYTES_OF_A_FEED > MOST_BYTES) {
            return NONE;
        }
        putBytes(a);
        putBytes(b);
        putBytes(c);
        putBytes(d);
        putBytes(e);
        return taped;
    }

    private void putBytes(int four) {
        for (int shift = 24; shift >= 0; shift -= 8) {
            if (taped < tape.length) {
                tape[taped] = (byte) (four >> shift);
                taped++;
            }
        }
    }

    public int back(int n) {
        if (n < 0 || n > taped) {
            return NONE;
        }
        taped -= n;
        return taped;
    }

    public int read() {
        text.cut(tape, taped);
        taped = 0;
        grammar.check();
        if (text.fault == 0) {
            names.check();
        }
        faultPlace = text.faultPlace;
        if (text.fault == 0) {
            table.takeFrom(text);
            hasTable = true;
            playing = false;
        }
        return text.fault;
    }

    public int place() {
        return faultPlace;
    }

    public boolean begin() {
        if (!hasTable) {
            return false;
        }
        playing = true;
        logged = 0;
        game.open();
        return true;
    }

    public int press(int s) {
        if (!playing || !table.has(SWITCH, s) || logged >= MOST_PRESSES) {
            return NONE;
        }
        logSwitches[logged] = s;
        logTicks[logged] = game.tick;
        logged++;
        return game.hit(s) ? 1 : 0;
    }

    public int ticks(int n) {
        if (!playing || n < 1 || n > MOST_TICKS_OF_A_CALL || game.tick + n > MOST_TICKS) {
            return NONE;
        }
        int fired = 0;
        for (int i = 0; i < n; i++) {
            fired += game.passTick();
        }
        return fired;
    }

    public long score() {
        return playing ? game.points : NONE;
    }

    public int told(int s, int what) {
        if (!table.has(SWITCH, s)) {
            return NONE;
        }
        if (what == 3) {
            return table.bounces[s];
        }
        if (!playing) {
            return NONE;
        }
        switch (what) {
            case 0:
                return game.switches.counted[s];
            case 1:
                return game.switches.pressed[s];
            case 2:
                return game.switches.isStuck(s, game.ballsOver()) ? 1 : 0;
            default:
                return NONE;
        }
    }

    public int coil(int c, int what) {
        if (!playing || !table.has(COIL, c)) {
            return NONE;
        }
        switch (what) {
            case 0:
                return game.coils.fired[c];
            case 1:
                return game.coils.fired[c] > 0 ? game.coils.latest[c] : NONE;
            case 2:
                return game.coils.placeInRow(c);
            default:
                return NONE;
        }
    }

    public int lamp(int l) {
        if (!playing || !table.has(LAMP, l)) {
            return NONE;
        }
        return game.wouldPay(table.lampSwitches[l]) ? 1 : 0;
    }

    public int value(int v) {
        return playing && table.has(VAR, v) ? game.vars[v] : 0;
    }

    public int mode(int m, int what) {
        if (!table.has(MODE, m)) {
            return NONE;
        }
        if (what == 3) {
            return table.ranks[m];
        }
        if (!playing) {
            return NONE;
        }
        switch (what) {
            case 0:
                return game.modes.on[m] ? 1 : 0;
            case 1:
                return game.modes.left[m];
            case 2:
                return game.modes.starts[m];
            default:
                return NONE;
        }
    }

    public int balls(int p, boolean most) {
        if (!playing || !table.has(PLACE, p)) {
            return NONE;
        }
        return most ? game.layouts.mostAt(p) : game.layouts.leastAt(p);
    }

    public long again() {
        if (!playing) {
            return NONE;
        }
        replay.open();
        for (int i = 0; i <= logged; i++) {
            boolean isPress = i < logged && i < MOST_PRESSES;
            int till = isPress ? logTicks[i] : game.tick;
            for (int tick = replay.tick; tick < till; tick++) {
                replay.passTick();
            }
            if (isPress) {
                replay.hit(logSwitches[i]);
            }
        }
        return replay.points;
    }

    public int ring() {
        return hasTable ? table.rules.firstRing : NONE;
    }

    public int count(int what) {
        switch (what) {
            case 0:
                return table.many[SWITCH];
            case 1:
                return table.many[COIL];
            case 2:
                return table.many[LAMP];
            case 3:
                return table.many[PLACE];
            case 4:
                return table.many[VAR];
            case 5:
                return table.many[MODE];
            case 6:
                return table.rules.many;
            case 15:
                return taped;
            default:
                return what >= 7 && what <= 14 ? countInGame(what) : NONE;
        }
    }

    /** Without a game nothing is there to be counted, so that all of these are 0 then. */
    private int countInGame(int what) {
        if (!playing) {
            return 0;
        }
        switch (what) {
            case 7:
                return game.ball;
            case 8:
                return game.layouts.inPlay;
            case 9:
                return game.tick;
            case 10:
                return game.layouts.size;
            case 11:
                return game.layouts.lost;
            case 12:
                return game.endless ? 1 : 0;
            case 13:
                return game.tilted ? 1 : 0;
            default:
                return logged;
        }
    }

    /**
     * The tokens of a text, and its first fault. One token more is kept than there is room for, so that
     * the grammar can tell whether the one too many would have fitted.
     */
    private static final class Text {
        private static final int ROWS = MOST_TOKENS + 2;
        private final long[] words = new long[WORD_COUNT];
        private final byte[] kinds = new byte[ROWS];
        private final int[] places = new int[ROWS];
        /** Of an INT its number; of a NAME its letters, till Names puts its number there. */
        private final long[] values = new long[ROWS];
        /** How many tokens there are, with the TEXT_END or NO_TOKEN behind them. */
        private int size = 0;
        int fault = 0;
        int faultPlace = NONE;

        Text() {
            int word = 0;
            long letters = 0;
            for (int i = 0; i < WORDS.length(); i++) {
                if (WORDS.charAt(i) != ' ') {
                    letters = letters << 8 | WORDS.charAt(i);
                } else if (word < words.length) {
                    words[word] = letters;
                    word++;
                    letters = 0;
                }
            }
        }

        void cut(byte[] bytes, int given) {
            int length = Math.min(given, bytes.length);
            size = 0;
            fault = 0;
            faultPlace = NONE;
            int at = 0;
            int kind = SEMICOLON;
            while (size < ROWS && kind != TEXT_END && kind != NO_TOKEN) {
                at = behindBlanks(bytes, at, length);
                int end = tokenEnd(bytes, at, length);
                kind = kindOf(bytes, at, end);
                kinds[size] = (byte) kind;
                places[size] = at;
                values[size] = kind == NAME || kind == INT ? valueOf(bytes, at, end, kind) : 0;
                size++;
                at = end;
            }
        }

        private static int behindBlanks(byte[] bytes, int from, int length) {
            int at = from;
            while (at < length && isBlank(bytes[at])) {
                at++;
            }
            return at;
        }

        private static boolean isBlank(int sign) {
            return sign == 9 || sign == 10 || sign == 13 || sign == 32;
        }

        private static boolean isLetter(int sign) {
            return sign >= 'a' && sign <= 'z';
        }

        private static boolean isDigit(int sign) {
            return sign >= '0' && sign <= '9';
        }

        /** Where the longest run of signs that can be one token ends; the length at the text's end. */
        private static int tokenEnd(byte[] bytes, int from, int length) {
            if (from < 0 || from >= length) {
                return length;
            }
            int first = bytes[from];
            int at = from + 1;
            if (isLetter(first)) {
                while (at < length && (isLetter(bytes[at]) || isDigit(bytes[at]))) {
                    at++;
                }
            } else if (isDigit(first)) {
                while (at < length && isDigit(bytes[at])) {
                    at++;
                }
            } else if ((first == '=' || first == '!' || first == '<') && at < length && bytes[at] == '=') {
                at++;
            }
            return at;
        }

        private int kindOf(byte[] bytes, int from, int end) {
            if (from < 0 || from >= end || end > bytes.length) {
                return TEXT_END;
            }
            int first = bytes[from];
            if (isLetter(first)) {
                return end - from > LONGEST_NAME ? NO_TOKEN : wordOrName(valueOf(bytes, from, end, NAME));
            }
            if (isDigit(first)) {
                return end - from > LONGEST_INT ? NO_TOKEN : INT;
            }
            return end - from == 2 ? longSign(first) : shortSign(first);
        }

        private static int longSign(int first) {
            switch (first) {
                case '=':
                    return EQUAL;
                case '!':
                    return UNEQUAL;
                default:
                    return AT_MOST;
            }
        }

        private static int shortSign(int sign) {
            switch (sign) {
                case ';':
                    return SEMICOLON;
                case ':':
                    return COLON;
                case ',':
                    return COMMA;
                case '(':
                    return OPEN;
                case ')':
                    return CLOSE;
                case '+':
                    return PLUS;
                case '-':
                    return MINUS;
                case '*':
                    return TIMES;
                case '<':
                    return LESS;
                default:
                    return NO_TOKEN;
            }
        }

        private static long valueOf(byte[] bytes, int from, int end, int kind) {
            long value = 0;
            for (int i = Math.max(0, from); i < end && i < bytes.length; i++) {
                value = kind == INT ? value * 10 + (bytes[i] - '0') : value << 8 | bytes[i];
            }
            return value;
        }

        private int wordOrName(long letters) {
            for (int i = 0; i < words.length; i++) {
                if (words[i] == letters) {
                    return i;
                }
            }
            return NAME;
        }

        int size() {
            return size;
        }

        int kindAt(int token) {
            return token >= 0 && token < size ? kinds[token] : TEXT_END;
        }

        long valueAt(int token) {
            return token >= 0 && token < size ? values[token] : 0;
        }

        int numberAt(int token) {
            return (int) valueAt(token);
        }

        void setNumber(int token, int number) {
            if (token >= 0 && token < size) {
                values[token] = number;
            }
        }

        /** Only the first fault stays: those who blame go from the front to the back. */
        void blame(int what, int token) {
            if (fault == 0 && token >= 0 && token < size) {
                fault = what;
                faultPlace = places[token];
            }
        }
    }

    /** Looks for the first fault of SYNTAX or ROOM, from the front to the back. */
    private static final class Grammar {
        private final Text text;
        private int at = 0;
        private final int[] seen = new int[WORD_COUNT];

        Grammar(Text text) {
            this.text = text;
        }

        void check() {
            at = 0;
            for (int i = 0; i < seen.length; i++) {
                seen[i] = 0;
            }
            for (int i = 0; i <= MOST_TOKENS && goesOnWithPart(); i++) {
                checkPart();
            }
            for (int i = 0; i <= MOST_TOKENS && sees(MODE); i++) {
                checkModeHead();
                for (int k = 0; k <= MOST_TOKENS && sees(ON); k++) {
                    checkRule();
                }
                need(END);
            }
            if (!sees(TEXT_END)) {
                text.blame(FAULT_SYNTAX, at);
            }
        }

        /** Whether the token that is next is of this kind, and no fault was found ahead of it. */
        private boolean sees(int kind) {
            return text.fault == 0 && text.kindAt(at) == kind;
        }

        private boolean goesOnWithPart() {
            return text.fault == 0 && text.kindAt(at) <= VAR;
        }

        /** Goes past a token that fits. */
        private void pass() {
            if (at >= MOST_TOKENS) {
                text.blame(FAULT_ROOM, at);
            } else {
                at++;
            }
        }

        private void need(int kind) {
            if (sees(kind)) {
                pass();
            } else {
                text.blame(FAULT_SYNTAX, at);
            }
        }

        /** Goes past the word that begins one more of its sort, of which there may be so many. */
        private void passNewOne(int word, int most) {
            if (word >= 0 && word < seen.length) {
                seen[word]++;
                if (seen[word] > most) {
                    text.blame(FAULT_ROOM, at);
                }
            }
            pass();
        }

        private void checkPart() {
            int word = text.kindAt(at);
            passNewOne(word, Table.roomFor(word));
            need(NAME);
            switch (word) {
                case SWITCH:
                case COIL:
                case VAR:
                    need(INT);
                    break;
                case APART:
                case LAMP:
                    need(NAME);
                    break;
                case WAY:
                    need(NAME);
                    if (sees(BY)) {
                        pass();
                        need(NAME);
                    }
                    break;
                default:
                    break;
            }
            need(SEMICOLON);
        }

        private void checkModeHead() {
            passNewOne(MODE, MOST_MODES);
            need(NAME);
            need(INT);
            if (sees(TIME)) {
                pass();
                need(INT);
            }
            need(SEMICOLON);
        }

        private void checkRule() {
            passNewOne(ON, MOST_RULES);
            if (sees(BEGIN) || sees(STOP)) {
                pass();
            } else {
                need(NAME);
            }
            if (sees(IF)) {
                pass();
                checkCond();
            }
            need(COLON);
            checkAct();
            for (int acts = 1; acts <= MOST_ACTS_OF_A_RULE && sees(COMMA); acts++) {
                pass();
                if (acts == MOST_ACTS_OF_A_RULE && isAct(text.kindAt(at))) {
                    text.blame(FAULT_ROOM, at);
                }
                checkAct();
            }
            need(SEMICOLON);
        }

        private static boolean isAct(int kind) {
            return kind >= SCORE && kind <= TILT;
        }

        private void checkAct() {
            int word = text.kindAt(at);
            if (!isAct(word)) {
                text.blame(FAULT_SYNTAX, at);
                return;
            }
            pass();
            if (word == SET || word == START || word == FIRE) {
                need(NAME);
            }
            if (word == SCORE || word == SET) {
                checkSum();
            }
        }

        private void checkCond() {
            boolean more = true;
            for (int i = 0; i <= MOST_TOKENS && more; i++) {
                checkSum();
                if (isRelation(text.kindAt(at))) {
                    pass();
                } else {
                    text.blame(FAULT_SYNTAX, at);
                }
                checkSum();
                more = sees(AND);
                if (more) {
                    pass();
                }
            }
        }

        private static boolean isRelation(int kind) {
            return kind >= EQUAL && kind <= AT_MOST;
        }

        /** An E: ends ahead of the first token that can't belong to it, at which there is no fault yet. */
        private void checkSum() {
            int open = 0;
            boolean wantsUnit = true;
            boolean mayBeMinus = true;
            for (int i = 0; i <= MOST_TOKENS && text.fault == 0; i++) {
                int kind = text.kindAt(at);
                if (wantsUnit && kind == OPEN) {
                    open++;
                    if (open > MOST_OPEN) {
                        text.blame(FAULT_ROOM, at);
                    }
                    mayBeMinus = true;
                } else if (wantsUnit && kind == MINUS && mayBeMinus) {
                    mayBeMinus = false;
                } else if (wantsUnit) {
                    if (kind != INT && kind != NAME && kind != LEFT && kind != BALLS) {
                        text.blame(FAULT_SYNTAX, at);
                    }
                    wantsUnit = false;
                } else if (kind == PLUS || kind == MINUS || kind == TIMES) {
                    wantsUnit = true;
                    mayBeMinus = false;
                } else if (open > 0) {
                    if (kind != CLOSE) {
                        text.blame(FAULT_SYNTAX, at);
                    }
                    open--;
                } else {
                    return;
                }
                pass();
            }
        }
    }

    /**
     * Looks for the first fault of TWICE, NAME or WRONG in a text without one of SYNTAX or ROOM, and puts
     * the number of what it names in the place of each NAME.
     */
    private static final class Names {
        private final Text text;
        private final long[] told = new long[MOST_NAMES];
        private final int[] sorts = new int[MOST_NAMES];
        private final int[] numbers = new int[MOST_NAMES];
        private int tellings = 0;
        private final int[] many = new int[WORD_COUNT];
        private final long[] modes = new long[MOST_MODES];

        Names(Text text) {
            this.text = text;
        }

        void check() {
            tellings = 0;
            for (int i = 0; i < many.length; i++) {
                many[i] = 0;
            }
            gatherModes();
            for (int i = 0; i < text.size() && text.fault == 0; i++) {
                if (text.kindAt(i) == NAME) {
                    checkName(i);
                } else if (text.kindAt(i) == INT && text.kindAt(i - 1) == TIME && text.valueAt(i) == 0) {
                    text.blame(FAULT_WRONG, i);
                }
            }
        }

        /** The modes' names, ahead of all else: 'start' may name one that is told behind it. */
        private void gatherModes() {
            int found = 0;
            for (int i = 0; i < text.size() && found < modes.length; i++) {
                if (text.kindAt(i) == MODE) {
                    modes[found] = text.valueAt(i + 1);
                    found++;
                }
            }
            for (int i = found; i < modes.length; i++) {
                modes[i] = 0;
            }
        }

        private void checkName(int token) {
            int ahead = text.kindAt(token - 1);
            int further = text.kindAt(token - 2);
            switch (ahead) {
                case SWITCH:
                case COIL:
                case LAMP:
                case PLACE:
                case VAR:
                case MODE:
                    tell(token, ahead);
                    break;
                case APART:
                case FIRE:
                    use(token, COIL);
                    break;
                case WAY:
                    use(token, PLACE);
                    break;
                case BY:
                case ON:
                    use(token, SWITCH);
                    break;
                case START:
                    use(token, MODE);
                    break;
                case NAME:
                    checkSecondName(token, further);
                    break;
                default:
                    use(token, VAR);
                    break;
            }
        }

        private void checkSecondName(int token, int word) {
            if (word == LAMP) {
                use(token, SWITCH);
            } else if (word == APART || word == WAY) {
                use(token, word == APART ? COIL : PLACE);
                if (text.valueAt(token) == text.valueAt(token - 1)) {
                    text.blame(FAULT_WRONG, token);
                }
            } else {
                use(token, VAR);
            }
        }

        private int telling(long name) {
            for (int i = 0; i < tellings && i < told.length; i++) {
                if (told[i] == name) {
                    return i;
                }
            }
            return NONE;
        }

        private void tell(int token, int sort) {
            if (telling(text.valueAt(token)) != NONE) {
                text.blame(FAULT_TWICE, token);
            } else if (tellings < told.length && sort >= 0 && sort < many.length) {
                told[tellings] = text.valueAt(token);
                sorts[tellings] = sort;
                numbers[tellings] = many[sort];
                tellings++;
                text.setNumber(token, many[sort]);
                many[sort]++;
            }
        }

        private void use(int token, int sort) {
            long name = text.valueAt(token);
            int telling = telling(name);
            int number = NONE;
            if (telling >= 0 && telling < sorts.length) {
                number = sorts[telling] == sort ? numbers[telling] : NONE;
            } else if (sort == MODE) {
                number = modeNamed(name);
            }
            if (number == NONE) {
                text.blame(FAULT_NAME, token);
            } else {
                text.setNumber(token, number);
            }
        }

        private int modeNamed(long name) {
            for (int i = 0; i < modes.length; i++) {
                if (modes[i] == name) {
                    return i;
                }
            }
            return NONE;
        }
    }

    /** What a text without a fault tells: its parts and its modes. */
    private static final class Table {
        final int[] many = new int[WORD_COUNT];
        final int[] bounces = new int[MOST_SWITCHES];
        final int[] rests = new int[MOST_COILS];
        /** Of each coil those that are apart from it, a bit each. */
        final int[] aparts = new int[MOST_COILS];
        final int[] lampSwitches = new int[MOST_LAMPS];
        final int[] wayFrom = new int[MOST_WAYS];
        final int[] wayTo = new int[MOST_WAYS];
        /** NONE of a silent way. */
        final int[] wayBy = new int[MOST_WAYS];
        final int[] firsts = new int[MOST_VARS];
        final int[] ranks = new int[MOST_MODES];
        /** 0 of a mode without. */
        final int[] times = new int[MOST_MODES];
        /** The modes, the highest rank first. */
        private final int[] order = new int[MOST_MODES];
        final Rules rules = new Rules();

        static int roomFor(int sort) {
            switch (sort) {
                case SWITCH:
                    return MOST_SWITCHES;
                case COIL:
                    return MOST_COILS;
                case APART:
                    return MOST_APARTS;
                case LAMP:
                    return MOST_LAMPS;
                case PLACE:
                    return MOST_PLACES;
                case WAY:
                    return MOST_WAYS;
                case VAR:
                    return MOST_VARS;
                default:
                    return MOST_MODES;
            }
        }

        boolean has(int sort, int number) {
            return sort >= 0 && sort < many.length && number >= 0 && number < many[sort];
        }

        void takeFrom(Text text) {
            for (int i = 0; i < many.length; i++) {
                many[i] = 0;
            }
            for (int i = 0; i < aparts.length; i++) {
                aparts[i] = 0;
            }
            for (int i = 0; i < text.size(); i++) {
                int kind = text.kindAt(i);
                if (kind <= MODE && many[kind] < roomFor(kind)) {
                    takeOne(text, i, kind);
                    many[kind]++;
                }
            }
            putInOrder();
            rules.takeFrom(text);
        }

        private void takeOne(Text text, int i, int kind) {
            int number = many[kind];
            int first = text.numberAt(i + 1);
            int second = text.numberAt(i + 2);
            if (kind == SWITCH && number < bounces.length) {
                bounces[number] = second;
            } else if (kind == COIL && number < rests.length) {
                rests[number] = second;
            } else if (kind == APART) {
                setApart(first, second);
            } else if (kind == LAMP && number < lampSwitches.length) {
                lampSwitches[number] = second;
            } else if (kind == WAY && number < wayBy.length) {
                wayFrom[number] = first;
                wayTo[number] = second;
                wayBy[number] = text.kindAt(i + 3) == BY ? text.numberAt(i + 4) : NONE;
            } else if (kind == VAR && number < firsts.length) {
                firsts[number] = second;
            } else if (kind == MODE && number < ranks.length) {
                ranks[number] = second;
                times[number] = text.kindAt(i + 3) == TIME ? text.numberAt(i + 4) : 0;
            }
        }

        private void setApart(int one, int other) {
            if (one >= 0 && one < aparts.length && other >= 0 && other < aparts.length) {
                aparts[one] |= 1 << other;
                aparts[other] |= 1 << one;
            }
        }

        int inOrder(int i) {
            return i >= 0 && i < order.length ? order[i] : NONE;
        }

        private void putInOrder() {
            for (int m = 0; m < many[MODE] && m < order.length; m++) {
                int at = m;
                while (at > 0 && ranks[order[at - 1]] < ranks[m]) {
                    order[at] = order[at - 1];
                    at--;
                }
                order[at] = m;
            }
        }
    }

    /** The rules of all modes, one behind the other, in the tokens in which the text told them. */
    private static final class Rules {
        private final byte[] kinds = new byte[MOST_TOKENS];
        private final int[] numbers = new int[MOST_TOKENS];
        private int size = 0;
        int many = 0;
        /** Of each mode its first rule; behind the last mode, how many rules there are. */
        private final int[] heads = new int[MOST_MODES + 1];
        private final int[] events = new int[MOST_RULES];
        /** Where the COND begins; NONE without. */
        private final int[] conds = new int[MOST_RULES];
        private final int[] acts = new int[MOST_RULES];
        /** Whether a rule has an act for which a lamp is lit; whether it has a hold. */
        private final boolean[] pays = new boolean[MOST_RULES];
        private final boolean[] holds = new boolean[MOST_RULES];
        /** What the rules on begin (at twice the mode's number) and on stop (one behind) lead to, a bit each. */
        private final int[] leads = new int[2 * MOST_MODES];
        int firstRing = NONE;

        int size() {
            return size;
        }

        int kindAt(int token) {
            return token >= 0 && token < size ? kinds[token] : TEXT_END;
        }

        int numberAt(int token) {
            return token >= 0 && token < size ? numbers[token] : 0;
        }

        int headOf(int m) {
            return m >= 0 && m < heads.length ? heads[m] : many;
        }

        boolean isOn(int rule, int event) {
            return rule >= 0 && rule < many && events[rule] == event;
        }

        int condOf(int rule) {
            return rule >= 0 && rule < many ? conds[rule] : NONE;
        }

        int actsOf(int rule) {
            return rule >= 0 && rule < many ? acts[rule] : size;
        }

        boolean pays(int rule) {
            return rule >= 0 && rule < many && pays[rule];
        }

        boolean hasHold(int rule) {
            return rule >= 0 && rule < many && holds[rule];
        }

        void takeFrom(Text text) {
            size = Math.min(text.size(), MOST_TOKENS);
            many = 0;
            for (int i = 0; i < leads.length; i++) {
                leads[i] = 0;
            }
            int modes = 0;
            for (int i = 0; i < size; i++) {
                kinds[i] = (byte) text.kindAt(i);
                numbers[i] = text.numberAt(i);
                if (kinds[i] == MODE && modes < MOST_MODES) {
                    heads[modes] = many;
                    modes++;
                } else if (kinds[i] == ON && many < MOST_RULES) {
                    openRule(text, i + 1);
                    many++;
                } else {
                    takeIntoRule(many - 1, i, text.numberAt(i + 1), modes - 1);
                }
            }
            for (int m = modes; m < heads.length; m++) {
                heads[m] = many;
            }
            findRing(modes);
        }

        private void openRule(Text text, int token) {
            int kind = text.kindAt(token);
            if (kind == NAME) {
                events[many] = text.numberAt(token);
            } else {
                events[many] = kind == BEGIN ? ON_BEGIN : ON_STOP;
            }
            conds[many] = NONE;
            acts[many] = MOST_TOKENS;
            pays[many] = false;
            holds[many] = false;
        }

        private void takeIntoRule(int rule, int token, int next, int m) {
            if (rule < 0 || rule >= events.length || m < 0 || token < 0 || token >= kinds.length) {
                return;
            }
            int kind = kinds[token];
            if (kind == IF) {
                conds[rule] = token + 1;
            } else if (kind == COLON) {
                acts[rule] = token + 1;
            } else if (kind == HOLD) {
                holds[rule] = true;
            } else if (kind == SCORE || kind == START || kind == SERVE) {
                pays[rule] = true;
            }
            if (events[rule] < 0 && kind == START) {
                addLead(nodeOf(m, events[rule]), nodeOf(next, ON_BEGIN));
            } else if (events[rule] < 0 && kind == LEAVE) {
                addLead(nodeOf(m, events[rule]), nodeOf(m, ON_STOP));
            }
        }

        private static int nodeOf(int m, int event) {
            return event == ON_BEGIN ? 2 * m : 2 * m + 1;
        }

        private void addLead(int from, int to) {
            if (from >= 0 && from < leads.length && to >= 0 && to < leads.length) {
                leads[from] |= 1 << to;
            }
        }

        private void findRing(int modes) {
            for (int by = 0; by < leads.length; by++) {
                for (int from = 0; from < leads.length; from++) {
                    if ((leads[from] >> by & 1) == 1) {
                        leads[from] |= leads[by];
                    }
                }
            }
            firstRing = NONE;
            for (int m = Math.min(modes, MOST_MODES) - 1; m >= 0; m--) {
                if ((leads[2 * m] >> 2 * m & 1) == 1) {
                    firstRing = m;
                }
            }
        }
    }

    /** Works out E's. */
    private static final class Sums {
        private final Rules rules;
        private final int[] outerSums = new int[MOST_OPEN];
        private final int[] outerTerms = new int[MOST_OPEN];
        /** The token behind the E that was worked out last. */
        int end = 0;

        Sums(Rules rules) {
            this.rules = rules;
        }

        int work(int from, int[] vars, int left, int inPlay) {
            int open = 0;
            int sum = 0;
            int term = 1;
            // till its first unit comes an E has no term that a minus could end
            boolean fresh = true;
            for (int at = Math.max(0, from); at < rules.size(); at++) {
                end = at;
                int kind = rules.kindAt(at);
                if (kind == OPEN && open < outerSums.length) {
                    outerSums[open] = sum;
                    outerTerms[open] = term;
                    open++;
                    sum = 0;
                    term = 1;
                    fresh = true;
                } else if (kind == CLOSE && open > 0) {
                    open--;
                    term = outerTerms[open] * (sum + term);
                    sum = outerSums[open];
                } else if (kind == PLUS || kind == MINUS) {
                    sum += fresh ? 0 : term;
                    term = kind == PLUS ? 1 : -1;
                } else if (kind == INT || kind == NAME || kind == LEFT || kind == BALLS) {
                    term *= unit(kind, rules.numberAt(at), vars, left, inPlay);
                    fresh = false;
                } else if (kind != TIMES) {
                    return sum + term;
                }
            }
            return sum + term;
        }

        private static int unit(int kind, int number, int[] vars, int left, int inPlay) {
            switch (kind) {
                case NAME:
                    return number >= 0 && number < vars.length ? vars[number] : 0;
                case LEFT:
                    return left;
                case BALLS:
                    return inPlay;
                default:
                    return number;
            }
        }
    }

    /** The switches of a game. */
    private static final class Switches {
        private final Table table;
        final int[] counted = new int[MOST_SWITCHES];
        final int[] pressed = new int[MOST_SWITCHES];
        /** The tick, and the ball (0: none), in which it counted last. */
        private final int[] latest = new int[MOST_SWITCHES];
        private final int[] latestBall = new int[MOST_SWITCHES];

        Switches(Table table) {
            this.table = table;
        }

        void clear() {
            for (int s = 0; s < counted.length; s++) {
                counted[s] = 0;
                pressed[s] = 0;
                latest[s] = 0;
                latestBall[s] = 0;
            }
        }

        /** A press of it; whether it counts. With ball 0 the game is over, and none counts. */
        boolean take(int s, int tick, int ball) {
            if (!table.has(SWITCH, s) || s >= counted.length) {
                return false;
            }
            pressed[s]++;
            if (ball == 0 || counted[s] > 0 && tick - latest[s] < table.bounces[s]) {
                return false;
            }
            counted[s]++;
            latest[s] = tick;
            latestBall[s] = ball;
            return true;
        }

        boolean isStuck(int s, int ballsOver) {
            return s >= 0 && s < latestBall.length && ballsOver >= 2 && latestBall[s] < ballsOver - 1;
        }
    }

    /** The coils of a game, and the row of those that wait to fire. */
    private static final class Coils {
        private final Table table;
        final int[] fired = new int[MOST_COILS];
        final int[] latest = new int[MOST_COILS];
        private final int[] row = new int[MOST_COILS];
        private int waiting = 0;

        Coils(Table table) {
            this.table = table;
        }

        void clear() {
            waiting = 0;
            for (int c = 0; c < fired.length; c++) {
                fired[c] = 0;
                latest[c] = 0;
            }
        }

        int placeInRow(int c) {
            for (int i = 0; i < waiting && i < row.length; i++) {
                if (row[i] == c) {
                    return i;
                }
            }
            return NONE;
        }

        void await(int c) {
            if (table.has(COIL, c) && waiting < row.length && placeInRow(c) == NONE) {
                row[waiting] = c;
                waiting++;
            }
        }

        /** Fires those that may at this tick; how many did. */
        int fireAt(int tick) {
            int firedNow = 0;
            int kept = 0;
            for (int i = 0; i < waiting && i < row.length; i++) {
                int c = row[i];
                boolean rested = table.has(COIL, c) && (fired[c] == 0 || tick - latest[c] >= table.rests[c]);
                if (rested && (table.aparts[c] & firedNow) == 0) {
                    fired[c]++;
                    latest[c] = tick;
                    firedNow |= 1 << c;
                } else {
                    row[kept] = c;
                    kept++;
                }
            }
            waiting = kept;
            return Integer.bitCount(firedNow);
        }
    }

    /**
     * How many balls are in play, and the layouts that can be. A layout is a number of three digits to the
     * base 9, the greatest first: a digit for each ball, one more than the place where it is, 0 of a ball that
     * is not in play. So a serve, a drain and a way are all the same: one digit becomes another.
     */
    private static final class Layouts {
        private static final int BASE = MOST_PLACES + 1;
        private static final int CODES = BASE * BASE * BASE;
        /** Three balls at eight places: 120 layouts; those of fewer balls are fewer. */
        private static final int MOST = 120;
        private final Table table;
        private int[] known;
        private int[] before;
        /** A layout is known if its mark is that of the latest change. */
        private final int[] marks;
        private int mark = 0;
        int size = 0;
        private int sizeBefore = 0;
        int inPlay = 0;
        int lost = 0;

        /** Unless layouts are wanted only the balls in play are counted, and no layout is known. */
        Layouts(Table table, boolean wanted) {
            this.table = table;
            known = new int[wanted ? MOST : 0];
            before = new int[wanted ? MOST : 0];
            marks = new int[wanted ? CODES : 0];
        }

        /** No ball in play: one layout, without places none. */
        void clear() {
            inPlay = 0;
            lost = 0;
            turnOver();
            if (table.many[PLACE] > 0) {
                put(0);
            }
        }

        /** One ball more, unless all are in play. */
        void takeBall() {
            if (inPlay < MOST_IN_PLAY) {
                inPlay++;
                turnOver();
                moveAll(0, 1);
                spread();
            }
        }

        /** One ball less, if there is one: what is known goes on to hold all that silent ways lead to. */
        void dropBall() {
            if (inPlay > 0) {
                inPlay--;
                turnOver();
                for (int p = 1; p <= table.many[PLACE]; p++) {
                    moveAll(p, 0);
                }
            }
        }

        /** A press that counts of the switch. */
        void moveBallBy(int s) {
            if (known.length == 0) {
                return;
            }
            boolean any = false;
            for (int w = 0; w < table.many[WAY] && w < MOST_WAYS; w++) {
                if (table.wayBy[w] == s) {
                    if (!any) {
                        turnOver();
                    }
                    any = true;
                    moveAll(table.wayFrom[w] + 1, table.wayTo[w] + 1);
                }
            }
            if (any && size == 0) {
                lost++;
                putAll();
            } else if (any) {
                spread();
            }
        }

        private void turnOver() {
            int[] empty = before;
            before = known;
            sizeBefore = size;
            known = empty;
            size = 0;
            mark++;
        }

        private void put(int layout) {
            if (layout >= 0 && layout < marks.length && marks[layout] != mark && size < known.length) {
                marks[layout] = mark;
                known[size] = layout;
                size++;
            }
        }

        private void moveAll(int from, int to) {
            for (int i = 0; i < sizeBefore && i < before.length; i++) {
                put(moved(before[i], from, to));
            }
        }

        /** Goes the silent ways on from what is known, and from what becomes known so. */
        private void spread() {
            for (int i = 0; i < size && i < known.length; i++) {
                for (int w = 0; w < table.many[WAY] && w < MOST_WAYS; w++) {
                    if (table.wayBy[w] == NONE) {
                        put(moved(known[i], table.wayFrom[w] + 1, table.wayTo[w] + 1));
                    }
                }
            }
        }

        /** All layouts of so many balls as are in play. */
        private void putAll() {
            for (int layout = 0; layout < CODES; layout++) {
                int a = layout / (BASE * BASE);
                int b = layout / BASE % BASE;
                int c = layout % BASE;
                int there = (a > 0 ? 1 : 0) + (b > 0 ? 1 : 0) + (c > 0 ? 1 : 0);
                if (a <= table.many[PLACE] && a >= b && b >= c && there == inPlay) {
                    put(layout);
                }
            }
        }

        /** The layout with one digit that was so changed; NONE if it has no such digit. */
        private static int moved(int layout, int from, int to) {
            int a = layout / (BASE * BASE);
            int b = layout / BASE % BASE;
            int c = layout % BASE;
            if (a == from) {
                a = to;
            } else if (b == from) {
                b = to;
            } else if (c == from) {
                c = to;
            } else {
                return NONE;
            }
            int greatest = Math.max(a, Math.max(b, c));
            int least = Math.min(a, Math.min(b, c));
            return (greatest * BASE + (a + b + c - greatest - least)) * BASE + least;
        }

        private static int ballsAt(int layout, int p) {
            int digit = p + 1;
            return (layout / (BASE * BASE) == digit ? 1 : 0) + (layout / BASE % BASE == digit ? 1 : 0)
                    + (layout % BASE == digit ? 1 : 0);
        }

        int mostAt(int p) {
            int most = 0;
            for (int i = 0; i < size && i < known.length; i++) {
                most = Math.max(most, ballsAt(known[i], p));
            }
            return most;
        }

        int leastAt(int p) {
            int least = MOST_IN_PLAY;
            for (int i = 0; i < size && i < known.length; i++) {
                least = Math.min(least, ballsAt(known[i], p));
            }
            return least;
        }
    }

    /** The modes of a game: which are on, and since when. */
    private static final class Modes {
        private final Table table;
        final boolean[] on = new boolean[MOST_MODES];
        final int[] left = new int[MOST_MODES];
        final int[] starts = new int[MOST_MODES];
        /** How often a mode went off: one that did meanwhile is told from one that was on all the time. */
        private final int[] offs = new int[MOST_MODES];
        /** The same as it was when the press or the tick came; NONE of a mode that was off then. */
        private final int[] offsThen = new int[MOST_MODES];
        /** How many are on that have a time: without any a tick does nothing to modes. */
        int withTime = 0;

        Modes(Table table) {
            this.table = table;
        }

        void clear() {
            withTime = 0;
            for (int m = 0; m < on.length; m++) {
                on[m] = false;
                left[m] = 0;
                starts[m] = 0;
                offs[m] = 0;
            }
        }

        void remember() {
            for (int m = 0; m < table.many[MODE] && m < offsThen.length; m++) {
                offsThen[m] = on[m] ? offs[m] : NONE;
            }
        }

        /** Whether it was on when the press or the tick came, and did not go off meanwhile. */
        boolean isOnSinceThen(int m) {
            return m >= 0 && m < offsThen.length && offsThen[m] == offs[m];
        }

        boolean isOn(int m) {
            return m >= 0 && m < on.length && on[m];
        }

        int timeLeftOf(int m) {
            return m >= 0 && m < left.length ? left[m] : 0;
        }

        int offsOf(int m) {
            return m >= 0 && m < offs.length ? offs[m] : 0;
        }

        /** Whether it was off till now; of one that is on the time begins anew. */
        boolean turnOn(int m) {
            if (!table.has(MODE, m) || m >= on.length) {
                return false;
            }
            left[m] = table.times[m];
            if (on[m]) {
                return false;
            }
            on[m] = true;
            starts[m]++;
            withTime += table.times[m] > 0 ? 1 : 0;
            return true;
        }

        /** Whether it was on till now. */
        boolean turnOff(int m) {
            if (!isOn(m)) {
                return false;
            }
            on[m] = false;
            left[m] = 0;
            offs[m]++;
            withTime -= table.times[m] > 0 ? 1 : 0;
            return true;
        }

        /** As by tilt: without their rules on stop. */
        void turnOffAllButFirst() {
            for (int m = 1; m < table.many[MODE]; m++) {
                turnOff(m);
            }
        }

        /** One tick less is left of its time; whether none is left now. */
        boolean passTimeOf(int m) {
            if (!isOnSinceThen(m) || table.times[m] <= 0) {
                return false;
            }
            left[m]--;
            return left[m] <= 0;
        }
    }

    /** A game on a table. */
    private static final class Game {
        private final Table table;
        private final Rules rules;
        private final Sums sums;
        final Switches switches;
        final Coils coils;
        final Layouts layouts;
        final Modes modes;
        final int[] vars = new int[MOST_VARS];
        long points = 0;
        /** 1 to 3; 0 when the game is over. */
        int ball = 0;
        int tick = 0;
        boolean endless = false;
        boolean tilted = false;
        private int acts = 0;
        private boolean held = false;

        Game(Table table, boolean withLayouts) {
            this.table = table;
            rules = table.rules;
            sums = new Sums(table.rules);
            switches = new Switches(table);
            coils = new Coils(table);
            layouts = new Layouts(table, withLayouts);
            modes = new Modes(table);
        }

        void open() {
            switches.clear();
            coils.clear();
            layouts.clear();
            for (int v = 0; v < vars.length; v++) {
                vars[v] = table.firsts[v];
            }
            modes.clear();
            points = 0;
            ball = 1;
            tick = 0;
            endless = false;
            tilted = false;
            layouts.takeBall();
            beginActs();
            if (modes.turnOn(0)) {
                doRules(0, ON_BEGIN, 1);
            }
            endBallIfNoneInPlay();
        }

        /** A press of the switch; whether it counts. */
        boolean hit(int s) {
            if (!switches.take(s, tick, ball)) {
                return false;
            }
            layouts.moveBallBy(s);
            beginActs();
            for (int i = 0; i < table.many[MODE] && !held; i++) {
                int m = table.inOrder(i);
                if (modes.isOnSinceThen(m)) {
                    doRules(m, s, 0);
                }
            }
            endBallIfNoneInPlay();
            return true;
        }

        /** One tick goes by; how many coils fired in it. */
        int passTick() {
            tick++;
            if (ball != 0 && modes.withTime > 0) {
                beginActs();
                for (int i = 0; i < table.many[MODE]; i++) {
                    int m = table.inOrder(i);
                    if (modes.passTimeOf(m) && modes.turnOff(m)) {
                        doRules(m, ON_STOP, 1);
                    }
                }
                endBallIfNoneInPlay();
            }
            return coils.fireAt(tick);
        }

        /** A press, a tick or the game's begin comes, with all of which acts may be done in it. */
        private void beginActs() {
            acts = 0;
            held = false;
            modes.remember();
        }

        private void endBallIfNoneInPlay() {
            if (ball == 0 || layouts.inPlay > 0) {
                return;
            }
            modes.turnOffAllButFirst();
            tilted = false;
            if (ball == MOST_BALLS) {
                ball = 0;
            } else {
                ball++;
                layouts.takeBall();
            }
        }

        int ballsOver() {
            return ball == 0 ? MOST_BALLS : ball - 1;
        }

        /** The rules of the mode on the event; the depth is 0 for those on a switch. */
        private void doRules(int m, int event, int depth) {
            if (depth > MOST_WITHIN) {
                return;
            }
            int offsAhead = modes.offsOf(m);
            for (int rule = rules.headOf(m); rule < rules.headOf(m + 1); rule++) {
                if (rules.isOn(rule, event) && holds(rule, m)) {
                    doActs(rule, m, depth);
                    boolean wentOff = event != ON_STOP && modes.offsOf(m) != offsAhead;
                    if (wentOff || depth == 0 && held) {
                        return;
                    }
                }
            }
        }

        private void doActs(int rule, int m, int depth) {
            for (int at = rules.actsOf(rule); at < rules.size(); at++) {
                int word = rules.kindAt(at);
                if (word == SEMICOLON) {
                    return;
                }
                if (word < SCORE || word > TILT) {
                    continue;
                }
                if (acts >= MOST_ACTS) {
                    endless = true;
                    return;
                }
                acts++;
                int number = rules.numberAt(at + 1);
                switch (word) {
                    case SCORE:
                        gain(work(at + 1, m));
                        break;
                    case SET:
                        assign(number, work(at + 2, m));
                        break;
                    case START:
                        if (modes.turnOn(number)) {
                            doRules(number, ON_BEGIN, depth + 1);
                        }
                        break;
                    case LEAVE:
                        if (modes.turnOff(m)) {
                            doRules(m, ON_STOP, depth + 1);
                        }
                        break;
                    case FIRE:
                        coils.await(number);
                        break;
                    case HOLD:
                        held = held || depth == 0;
                        break;
                    case DRAIN:
                        layouts.dropBall();
                        break;
                    case SERVE:
                        layouts.takeBall();
                        break;
                    default:
                        tilted = true;
                        modes.turnOffAllButFirst();
                        break;
                }
            }
        }

        private void gain(int much) {
            if (!tilted) {
                points = Math.max(0, points + much);
            }
        }

        private void assign(int v, int worth) {
            if (v >= 0 && v < vars.length) {
                vars[v] = worth;
            }
        }

        private int work(int from, int m) {
            return sums.work(from, vars, modes.timeLeftOf(m), layouts.inPlay);
        }

        private boolean holds(int rule, int m) {
            int at = rules.condOf(rule);
            for (int i = 0; i <= MOST_TOKENS && at != NONE; i++) {
                int one = work(at, m);
                int sign = rules.kindAt(sums.end);
                int other = work(sums.end + 1, m);
                if (!compares(one, sign, other)) {
                    return false;
                }
                at = rules.kindAt(sums.end) == AND ? sums.end + 1 : NONE;
            }
            return true;
        }

        private static boolean compares(int one, int sign, int other) {
            switch (sign) {
                case EQUAL:
                    return one == other;
                case UNEQUAL:
                    return one != other;
                case LESS:
                    return one < other;
                default:
                    return one <= other;
            }
        }

        /** Whether a press of the switch, if it counted now, would come to a rule that pays. */
        boolean wouldPay(int s) {
            if (ball == 0 || tilted) {
                return false;
            }
            for (int i = 0; i < table.many[MODE]; i++) {
                int m = table.inOrder(i);
                int end = modes.isOn(m) ? rules.headOf(m + 1) : 0;
                for (int rule = rules.headOf(m); rule < end; rule++) {
                    boolean asked = rules.isOn(rule, s) && (rules.pays(rule) || rules.hasHold(rule));
                    if (asked && holds(rule, m)) {
                        return rules.pays(rule);
                    }
                }
            }
            return false;
        }
    }
}
