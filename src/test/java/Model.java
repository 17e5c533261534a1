import java.util.ArrayList;
import java.util.Arrays;
import java.util.HashMap;
import java.util.HashSet;
import java.util.LinkedHashMap;
import java.util.List;
import java.util.Map;
import java.util.Set;
import java.util.regex.Matcher;
import java.util.regex.Pattern;

/**
 * The document once more, written without a look at speed or room and in other ways than the program:
 * trees for rules, sets for layouts, a life for each time that a mode is on. ModelTest compares the two.
 */
final class Model {
    private static final Set<String> WORDS = Set.of(("switch coil apart lamp place way var mode by time end on begin"
            + " stop if and score set start leave fire hold drain serve tilt left balls").split(" "));
    private static final Set<String> ACTS = Set.of("score", "set", "start", "leave", "fire", "hold", "drain", "serve",
            "tilt");

    private static final class Fault extends Exception {
        private static final long serialVersionUID = 1L;
        private final int number;
        private final int place;

        Fault(int number, int place) {
            super(number + " at " + place, null, false, false);
            this.number = number;
            this.place = place;
        }

        /** The one that is told of the two: the first by its place, of one place the least. */
        static Fault first(Fault one, Fault other) {
            if (one == null || other == null) {
                return one == null ? other : one;
            }
            boolean oneFirst = one.place != other.place ? one.place < other.place : one.number <= other.number;
            return oneFirst ? one : other;
        }
    }

    private record Token(String kind, String text, int place) {
        boolean is(String what) {
            return kind.equals(what);
        }
    }

    private interface Sum {
        int work(Game game, int mode);
    }

    private record Rel(Sum one, String sign, Sum other) {
        boolean holds(Game game, int mode) {
            int a = one.work(game, mode);
            int b = other.work(game, mode);
            return switch (sign) {
                case "==" -> a == b;
                case "!=" -> a != b;
                case "<" -> a < b;
                default -> a <= b;
            };
        }
    }

    private record Act(String word, int number, Sum sum) {
    }

    private record Rule(String event, List<Rel> conds, List<Act> acts) {
        boolean holds(Game game, int mode) {
            return conds.stream().allMatch(rel -> rel.holds(game, mode));
        }

        boolean has(String... words) {
            return acts.stream().anyMatch(act -> Arrays.asList(words).contains(act.word));
        }
    }

    private record Mode(int rank, int time, List<Rule> rules) {
    }

    private record Way(int from, int to, int by) {
    }

    private static final class Table {
        private final List<Integer> bounces = new ArrayList<>();
        private final List<Integer> rests = new ArrayList<>();
        private final Set<List<Integer>> aparts = new HashSet<>();
        private final List<Integer> lamps = new ArrayList<>();
        private int places = 0;
        private final List<Way> ways = new ArrayList<>();
        private final List<Integer> firsts = new ArrayList<>();
        private final List<Mode> modes = new ArrayList<>();

        /** Modes by their order. */
        List<Integer> order() {
            List<Integer> order = new ArrayList<>();
            for (int m = 0; m < modes.size(); m++) {
                order.add(m);
            }
            order.sort((a, b) -> modes.get(a).rank != modes.get(b).rank
                    ? Integer.compare(modes.get(b).rank, modes.get(a).rank) : Integer.compare(a, b));
            return order;
        }
    }

    // ---- reading ----

    /** Tokens up to the first thing that is none; that, or the text's end, is the last in the list. */
    private static List<Token> tokens(String text) {
        Pattern one = Pattern.compile("([a-z][a-z0-9]*)|([0-9]+)|(==|!=|<=|[;:,()+*<-])");
        List<Token> tokens = new ArrayList<>();
        Matcher matcher = one.matcher(text);
        int at = 0;
        while (true) {
            while (at < text.length() && "\t\n\r ".indexOf(text.charAt(at)) >= 0) {
                at++;
            }
            if (at == text.length()) {
                tokens.add(new Token("text's end", "", at));
                return tokens;
            }
            matcher.region(at, text.length());
            if (!matcher.lookingAt() || length(matcher.group(1)) > 8 || length(matcher.group(2)) > 5) {
                tokens.add(new Token("none", "", at));
                return tokens;
            }
            String found = matcher.group();
            String kind = matcher.group(2) != null ? "INT"
                    : matcher.group(1) != null && !WORDS.contains(found) ? "NAME" : found;
            tokens.add(new Token(kind, found, at));
            at = matcher.end();
        }
    }

    private static int length(String text) {
        return text == null ? 0 : text.length();
    }

    /** Reads tokens into a table; keeps the first fault of names as it goes, throws one of syntax. */
    private static final class Reader {
        private final List<Token> tokens;
        private int at = 0;
        private final Table table = new Table();
        private final Map<String, String> sorts = new HashMap<>();
        private final Map<String, Integer> numbers = new LinkedHashMap<>();
        private final Map<String, Integer> many = new HashMap<>();
        private final List<Runnable> behind = new ArrayList<>();
        private Fault names = null;

        Reader(List<Token> tokens) {
            this.tokens = tokens;
        }

        boolean sees(String kind) {
            return tokens.get(at).is(kind);
        }

        Token take(String kind) throws Fault {
            if (!sees(kind)) {
                throw new Fault(1, tokens.get(at).place);
            }
            return tokens.get(at++);
        }

        boolean takes(String kind) {
            if (sees(kind)) {
                at++;
                return true;
            }
            return false;
        }

        void blame(int number, Token token) {
            names = Fault.first(names, new Fault(number, token.place));
        }

        void tell(String sort) throws Fault {
            Token token = take("NAME");
            if (sorts.containsKey(token.text)) {
                blame(3, token);
                return;
            }
            sorts.put(token.text, sort);
            numbers.put(token.text, many.merge(sort, 1, Integer::sum) - 1);
        }

        int use(String sort) throws Fault {
            Token token = take("NAME");
            if (!sort.equals(sorts.get(token.text))) {
                blame(4, token);
                return 0;
            }
            return numbers.get(token.text);
        }

        int useOther(String sort) throws Fault {
            Token token = tokens.get(at);
            String ahead = tokens.get(at - 1).text;
            int second = use(sort);
            if (token.text.equals(ahead)) {
                blame(5, token);
            }
            return second;
        }

        int number() throws Fault {
            return Integer.parseInt(take("INT").text);
        }

        void readText() throws Fault {
            while (readPart()) {
                take(";");
            }
            while (takes("mode")) {
                readMode();
            }
            take("text's end");
            behind.forEach(Runnable::run);
        }

        boolean readPart() throws Fault {
            if (takes("switch")) {
                tell("switch");
                table.bounces.add(number());
            } else if (takes("coil")) {
                tell("coil");
                table.rests.add(number());
            } else if (takes("apart")) {
                int one = use("coil");
                int other = useOther("coil");
                table.aparts.add(List.of(one, other));
                table.aparts.add(List.of(other, one));
            } else if (takes("lamp")) {
                tell("lamp");
                table.lamps.add(use("switch"));
            } else if (takes("place")) {
                tell("place");
                table.places++;
            } else if (takes("way")) {
                int from = use("place");
                int to = useOther("place");
                table.ways.add(new Way(from, to, takes("by") ? use("switch") : -1));
            } else if (takes("var")) {
                tell("var");
                table.firsts.add(number());
            } else {
                return false;
            }
            return true;
        }

        void readMode() throws Fault {
            tell("mode");
            int rank = number();
            int time = 0;
            if (takes("time")) {
                Token token = tokens.get(at);
                time = number();
                if (time == 0) {
                    blame(5, token);
                }
            }
            take(";");
            List<Rule> rules = new ArrayList<>();
            while (takes("on")) {
                rules.add(readRule());
            }
            take("end");
            table.modes.add(new Mode(rank, time, rules));
        }

        Rule readRule() throws Fault {
            String event = takes("begin") ? "begin" : takes("stop") ? "stop" : "switch " + use("switch");
            List<Rel> conds = new ArrayList<>();
            if (takes("if")) {
                do {
                    conds.add(readRel());
                } while (takes("and"));
            }
            take(":");
            List<Act> acts = new ArrayList<>();
            do {
                acts.add(readAct());
            } while (takes(","));
            take(";");
            return new Rule(event, conds, acts);
        }

        Rel readRel() throws Fault {
            Sum one = readSum();
            Token sign = tokens.get(at);
            if (!List.of("==", "!=", "<", "<=").contains(sign.kind)) {
                throw new Fault(1, sign.place);
            }
            at++;
            return new Rel(one, sign.kind, readSum());
        }

        Act readAct() throws Fault {
            Token word = tokens.get(at);
            if (!ACTS.contains(word.kind)) {
                throw new Fault(1, word.place);
            }
            at++;
            return switch (word.kind) {
                case "score" -> new Act("score", 0, readSum());
                case "set" -> new Act("set", use("var"), readSum());
                case "fire" -> new Act("fire", use("coil"), null);
                case "start" -> readStart();
                default -> new Act(word.kind, 0, null);
            };
        }

        /** The mode may be told behind: its number is a promise, kept by its name. */
        Act readStart() throws Fault {
            Token name = take("NAME");
            boolean other = sorts.containsKey(name.text) && !sorts.get(name.text).equals("mode");
            behind.add(() -> {
                if (other || !"mode".equals(sorts.get(name.text))) {
                    blame(4, name);
                }
            });
            return new Act("start", 0, (game, mode) -> numbers.get(name.text));
        }

        Sum readSum() throws Fault {
            boolean minus = takes("-");
            Sum part = readProduct();
            Sum all = part;
            if (minus) {
                all = (game, mode) -> -part.work(game, mode);
            }
            while (sees("+") || sees("-")) {
                int sign = tokens.get(at++).is("+") ? 1 : -1;
                Sum one = all;
                Sum other = readProduct();
                all = (game, mode) -> one.work(game, mode) + sign * other.work(game, mode);
            }
            return all;
        }

        Sum readProduct() throws Fault {
            Sum all = readUnit();
            while (takes("*")) {
                Sum one = all;
                Sum other = readUnit();
                all = (game, mode) -> one.work(game, mode) * other.work(game, mode);
            }
            return all;
        }

        Sum readUnit() throws Fault {
            if (sees("INT")) {
                int number = number();
                return (game, mode) -> number;
            }
            if (takes("left")) {
                return (game, mode) -> game.left[mode];
            }
            if (takes("balls")) {
                return (game, mode) -> game.inPlay;
            }
            if (takes("(")) {
                Sum inner = readSum();
                take(")");
                return inner;
            }
            int v = use("var");
            return (game, mode) -> game.vars[v];
        }
    }

    /** The first fault of room among the tokens, as if none were wrong. */
    private static Fault firstOfRoom(List<Token> tokens) {
        Map<String, Integer> most = Map.of("switch", 16, "coil", 8, "apart", 8, "lamp", 16, "place", 8, "way", 24,
                "var", 16, "mode", 12, "on", 80);
        Map<String, Integer> many = new HashMap<>();
        int acts = 0;
        int open = 0;
        for (int i = 0; i < tokens.size(); i++) {
            Token token = tokens.get(i);
            acts = token.is("on") ? 0 : ACTS.contains(token.kind) ? acts + 1 : acts;
            open = token.is("(") ? open + 1 : token.is(")") ? open - 1 : open;
            boolean tooMany = most.containsKey(token.kind)
                    && many.merge(token.kind, 1, Integer::sum) > most.get(token.kind);
            boolean isToken = !token.is("none") && !token.is("text's end");
            if (tooMany || acts > 12 || open > 6 || i >= 1000 && isToken) {
                return new Fault(2, token.place);
            }
        }
        return null;
    }

    private static Fault firstOfSyntax(Reader reader) {
        try {
            reader.readText();
            return null;
        } catch (Fault fault) {
            return fault;
        }
    }

    // ---- a game ----

    private static final class Game {
        private final Table table;
        private long score = 0;
        private final int[] vars;
        private final int[] left;
        private final int[] starts;
        private final Object[] lives;
        private int ball = 1;
        private int inPlay = 0;
        private int tick = 0;
        private boolean endless = false;
        private boolean tilted = false;
        private int acts = 0;
        private boolean held = false;
        private Set<List<Integer>> layouts = new HashSet<>();
        private int lost = 0;
        private final List<List<Integer>> countedAt = new ArrayList<>();
        private final int[] presses;
        private final List<Set<Integer>> countedInBall = new ArrayList<>();
        private final Set<Integer> stuck = new HashSet<>();
        private final List<List<Integer>> firedAt = new ArrayList<>();
        private final List<Integer> waiting = new ArrayList<>();

        Game(Table table) {
            this.table = table;
            vars = table.firsts.stream().mapToInt(first -> first).toArray();
            left = new int[table.modes.size()];
            starts = new int[table.modes.size()];
            lives = new Object[table.modes.size()];
            presses = new int[table.bounces.size()];
            table.bounces.forEach(bounce -> countedAt.add(new ArrayList<>()));
            table.rests.forEach(rest -> firedAt.add(new ArrayList<>()));
            for (int b = 0; b <= 3; b++) {
                countedInBall.add(new HashSet<>());
            }
            if (table.places > 0) {
                layouts.add(new ArrayList<>(java.util.Collections.nCopies(table.places, 0)));
            }
            serve();
            if (lives.length > 0) {
                start(0, 0);
            }
            endBall();
        }

        boolean press(int s) {
            presses[s]++;
            List<Integer> counted = countedAt.get(s);
            if (ball > 3 || !counted.isEmpty()
                    && tick - counted.get(counted.size() - 1) < table.bounces.get(s)) {
                return false;
            }
            counted.add(tick);
            countedInBall.get(ball).add(s);
            stuck.remove(s);
            go(s);
            acts = 0;
            held = false;
            Object[] then = lives.clone();
            for (int m : table.order()) {
                if (then[m] != null && !held) {
                    doRules(m, "switch " + s, then[m], 0);
                }
            }
            endBall();
            return true;
        }

        int tick() {
            tick++;
            if (ball <= 3) {
                acts = 0;
                Object[] then = lives.clone();
                for (int m : table.order()) {
                    if (then[m] != null && lives[m] == then[m] && table.modes.get(m).time > 0) {
                        left[m]--;
                        if (left[m] == 0) {
                            leave(m, 0);
                        }
                    }
                }
                endBall();
            }
            return fireCoils();
        }

        private int fireCoils() {
            List<Integer> firedNow = new ArrayList<>();
            for (int c : List.copyOf(waiting)) {
                List<Integer> fired = firedAt.get(c);
                boolean rested = fired.isEmpty() || tick - fired.get(fired.size() - 1) >= table.rests.get(c);
                if (rested && firedNow.stream().noneMatch(other -> table.aparts.contains(List.of(c, other)))) {
                    fired.add(tick);
                    firedNow.add(c);
                    waiting.remove(Integer.valueOf(c));
                }
            }
            return firedNow.size();
        }

        private void endBall() {
            if (inPlay > 0 || ball > 3) {
                return;
            }
            modesOff();
            tilted = false;
            if (ball >= 2) {
                for (int s = 0; s < presses.length; s++) {
                    if (!countedInBall.get(ball).contains(s) && !countedInBall.get(ball - 1).contains(s)) {
                        stuck.add(s);
                    }
                }
            }
            ball++;
            if (ball <= 3) {
                serve();
            }
        }

        private void modesOff() {
            for (int m = 1; m < lives.length; m++) {
                lives[m] = null;
                left[m] = 0;
            }
        }

        private void start(int m, int within) {
            left[m] = table.modes.get(m).time;
            if (lives[m] == null) {
                lives[m] = new Object();
                starts[m]++;
                doRules(m, "begin", lives[m], within + 1);
            }
        }

        private void leave(int m, int within) {
            if (lives[m] != null) {
                lives[m] = null;
                left[m] = 0;
                doRules(m, "stop", null, within + 1);
            }
        }

        private void doRules(int m, String event, Object life, int within) {
            if (within > 8) {
                return;
            }
            for (Rule rule : table.modes.get(m).rules) {
                boolean goesOn = event.equals("stop") || lives[m] == life;
                boolean wanted = rule.event.equals(event) && goesOn && !(held && within == 0);
                if (wanted && rule.holds(this, m)) {
                    for (Act act : rule.acts) {
                        doAct(act, m, within);
                    }
                }
            }
        }

        private void doAct(Act act, int m, int within) {
            if (acts == 200) {
                endless = true;
                return;
            }
            acts++;
            switch (act.word) {
                case "score" -> score = tilted ? score : Math.max(0L, score + act.sum.work(this, m));
                case "set" -> vars[act.number] = act.sum.work(this, m);
                case "start" -> start(act.sum.work(this, m), within);
                case "leave" -> leave(m, within);
                case "fire" -> {
                    if (!waiting.contains(act.number)) {
                        waiting.add(act.number);
                    }
                }
                case "hold" -> held |= within == 0;
                case "drain" -> drain();
                case "serve" -> serve();
                default -> {
                    tilted = true;
                    modesOff();
                }
            }
        }

        private void serve() {
            if (inPlay == 3) {
                return;
            }
            inPlay++;
            Set<List<Integer>> next = new HashSet<>();
            for (List<Integer> layout : layouts) {
                next.add(changed(layout, -1, 0));
            }
            layouts = spread(next);
        }

        private void drain() {
            if (inPlay == 0) {
                return;
            }
            inPlay--;
            Set<List<Integer>> next = new HashSet<>();
            for (List<Integer> layout : layouts) {
                for (int p = 0; p < table.places; p++) {
                    if (layout.get(p) > 0) {
                        next.add(changed(layout, p, -1));
                    }
                }
            }
            layouts = spread(next);
        }

        private void go(int s) {
            if (table.ways.stream().noneMatch(way -> way.by == s)) {
                return;
            }
            Set<List<Integer>> next = new HashSet<>();
            for (List<Integer> layout : layouts) {
                for (Way way : table.ways) {
                    if (way.by == s && layout.get(way.from) > 0) {
                        next.add(changed(layout, way.from, way.to));
                    }
                }
            }
            if (next.isEmpty()) {
                lost++;
                addAll(new ArrayList<>(), inPlay, next);
            }
            layouts = spread(next);
        }

        private void addAll(List<Integer> ahead, int rest, Set<List<Integer>> all) {
            if (ahead.size() == table.places) {
                if (rest == 0) {
                    all.add(ahead);
                }
                return;
            }
            for (int here = 0; here <= rest; here++) {
                List<Integer> longer = new ArrayList<>(ahead);
                longer.add(here);
                addAll(longer, rest - here, all);
            }
        }

        private static List<Integer> changed(List<Integer> layout, int from, int to) {
            List<Integer> next = new ArrayList<>(layout);
            if (from >= 0) {
                next.set(from, next.get(from) - 1);
            }
            if (to >= 0) {
                next.set(to, next.get(to) + 1);
            }
            return next;
        }

        private Set<List<Integer>> spread(Set<List<Integer>> some) {
            Set<List<Integer>> all = new HashSet<>(some);
            boolean more = true;
            while (more) {
                Set<List<Integer>> next = new HashSet<>(all);
                for (List<Integer> layout : all) {
                    for (Way way : table.ways) {
                        if (way.by == -1 && layout.get(way.from) > 0) {
                            next.add(changed(layout, way.from, way.to));
                        }
                    }
                }
                more = next.size() > all.size();
                all = next;
            }
            return all;
        }

        private boolean lit(int s) {
            if (ball > 3 || tilted) {
                return false;
            }
            for (int m : table.order()) {
                if (lives[m] == null) {
                    continue;
                }
                for (Rule rule : table.modes.get(m).rules) {
                    if (rule.event.equals("switch " + s) && rule.holds(this, m)) {
                        if (rule.has("score", "start", "serve")) {
                            return true;
                        }
                        if (rule.has("hold")) {
                            return false;
                        }
                    }
                }
            }
            return false;
        }
    }

    // ---- the face ----

    private final StringBuilder tape = new StringBuilder();
    private int place = -1;
    private Table table = null;
    private Game game = null;
    private final List<Integer> log = new ArrayList<>();
    private int logged = 0;

    int feed(int... five) {
        if (tape.length() + 20 > 4000) {
            return -1;
        }
        for (int four : five) {
            for (int shift : new int[] {24, 16, 8, 0}) {
                tape.append((char) (four >>> shift & 255));
            }
        }
        return tape.length();
    }

    int back(int n) {
        if (n < 0 || n > tape.length()) {
            return -1;
        }
        tape.setLength(tape.length() - n);
        return tape.length();
    }

    int read() {
        List<Token> tokens = tokens(tape.toString());
        tape.setLength(0);
        Reader reader = new Reader(tokens);
        Fault fault = Fault.first(firstOfSyntax(reader), firstOfRoom(tokens));
        fault = fault == null ? reader.names : fault;
        place = fault == null ? -1 : fault.place;
        if (fault == null) {
            table = reader.table;
            game = null;
        }
        return fault == null ? 0 : fault.number;
    }

    int place() {
        return place;
    }

    boolean begin() {
        if (table != null) {
            game = new Game(table);
            log.clear();
            logged = 0;
        }
        return table != null;
    }

    int press(int s) {
        if (game == null || s < 0 || s >= table.bounces.size() || logged == 600) {
            return -1;
        }
        log.add(s);
        logged++;
        return game.press(s) ? 1 : 0;
    }

    int ticks(int n) {
        if (game == null || n < 1 || n > 100 || game.tick + n > 5000) {
            return -1;
        }
        int fired = 0;
        for (int i = 0; i < n; i++) {
            fired += game.tick();
            log.add(-1);
        }
        return fired;
    }

    long score() {
        return game == null ? -1 : game.score;
    }

    int told(int s, int what) {
        if (table == null || s < 0 || s >= table.bounces.size() || what < 0 || what > 3 || game == null && what < 3) {
            return -1;
        }
        return switch (what) {
            case 0 -> game.countedAt.get(s).size();
            case 1 -> game.presses[s];
            case 2 -> game.stuck.contains(s) ? 1 : 0;
            default -> table.bounces.get(s);
        };
    }

    int coil(int c, int what) {
        if (game == null || c < 0 || c >= table.rests.size() || what < 0 || what > 2) {
            return -1;
        }
        List<Integer> fired = game.firedAt.get(c);
        return switch (what) {
            case 0 -> fired.size();
            case 1 -> fired.isEmpty() ? -1 : fired.get(fired.size() - 1);
            default -> game.waiting.indexOf(c);
        };
    }

    int lamp(int l) {
        if (game == null || l < 0 || l >= table.lamps.size()) {
            return -1;
        }
        return game.lit(table.lamps.get(l)) ? 1 : 0;
    }

    int value(int v) {
        return game == null || v < 0 || v >= game.vars.length ? 0 : game.vars[v];
    }

    int mode(int m, int what) {
        if (table == null || m < 0 || m >= table.modes.size() || what < 0 || what > 3 || game == null && what < 3) {
            return -1;
        }
        return switch (what) {
            case 0 -> game.lives[m] != null ? 1 : 0;
            case 1 -> game.left[m];
            case 2 -> game.starts[m];
            default -> table.modes.get(m).rank;
        };
    }

    int balls(int p, boolean most) {
        if (game == null || p < 0 || p >= table.places) {
            return -1;
        }
        var there = game.layouts.stream().mapToInt(layout -> layout.get(p));
        return most ? there.max().orElseThrow() : there.min().orElseThrow();
    }

    long again() {
        if (game == null) {
            return -1;
        }
        Game other = new Game(table);
        for (int one : log) {
            if (one < 0) {
                other.tick();
            } else {
                other.press(one);
            }
        }
        return other.score;
    }

    int ring() {
        for (int m = 0; table != null && m < table.modes.size(); m++) {
            if (leadsTo(m, "begin", m, new HashSet<>())) {
                return m;
            }
        }
        return -1;
    }

    private boolean leadsTo(int m, String event, int wanted, Set<String> seen) {
        for (Rule rule : table.modes.get(m).rules) {
            if (!rule.event.equals(event)) {
                continue;
            }
            for (Act act : rule.acts) {
                boolean starts = act.word.equals("start");
                if (!starts && !act.word.equals("leave")) {
                    continue;
                }
                int next = starts ? act.sum.work(null, m) : m;
                String nextEvent = starts ? "begin" : "stop";
                if (starts && next == wanted
                        || seen.add(next + nextEvent) && leadsTo(next, nextEvent, wanted, seen)) {
                    return true;
                }
            }
        }
        return false;
    }

    int count(int what) {
        if (what < 0 || what > 15) {
            return -1;
        }
        if (what == 15) {
            return tape.length();
        }
        if (what < 7) {
            return table == null ? 0 : new int[] {table.bounces.size(), table.rests.size(), table.lamps.size(),
                table.places, table.firsts.size(), table.modes.size(),
                table.modes.stream().mapToInt(mode -> mode.rules.size()).sum()}[what];
        }
        return game == null ? 0 : new int[] {game.ball > 3 ? 0 : game.ball, game.inPlay, game.tick,
            game.layouts.size(), game.lost, game.endless ? 1 : 0, game.tilted ? 1 : 0, logged}[what - 7];
    }
}
