import java.util.ArrayList;
import java.util.List;
import java.util.Random;

/** Texts of tables, made up by a random source whose seed is given: sound ones, and spoiled ones. */
final class Tables {
    private final Random random;
    private final List<String> tokens = new ArrayList<>();
    private int switches;
    private int coils;
    private int places;
    private int vars;
    private int modes;
    /** A restless table starts and leaves more, so that more of it is done within one another. */
    private boolean restless;

    Tables(long seed) {
        random = new Random(seed);
    }

    private int below(int n) {
        return random.nextInt(n);
    }

    private boolean chance(int percent) {
        return below(100) < percent;
    }

    private void put(String... some) {
        tokens.addAll(List.of(some));
    }

    List<String> tokens() {
        tokens.clear();
        switches = 1 + below(5);
        coils = below(5);
        places = chance(20) ? 0 : below(chance(10) ? 9 : 5);
        vars = below(4);
        modes = chance(5) ? 0 : 1 + below(chance(10) ? 12 : 5);
        restless = chance(25);
        for (int i = 0; i < switches; i++) {
            put("switch", "s" + i, "" + (chance(60) ? 0 : below(4)), ";");
        }
        for (int i = 0; i < coils; i++) {
            put("coil", "c" + i, "" + below(5), ";");
        }
        for (int i = below(4); coils > 1 && i > 0; i--) {
            int one = below(coils);
            put("apart", "c" + one, "c" + (one + 1 + below(coils - 1)) % coils, ";");
        }
        for (int i = below(4); i > 0; i--) {
            put("lamp", "l" + i, "s" + below(switches), ";");
        }
        for (int i = 0; i < places; i++) {
            put("place", "p" + i, ";");
        }
        for (int i = below(7); places > 1 && i > 0; i--) {
            putWay();
        }
        for (int i = 0; i < vars; i++) {
            put("var", "v" + i, "" + (chance(10) ? 99999 : below(4)), ";");
        }
        for (int i = 0; i < modes; i++) {
            putMode(i);
        }
        return tokens;
    }

    private void putWay() {
        int from = below(places);
        put("way", "p" + from, "p" + (from + 1 + below(places - 1)) % places);
        if (chance(75)) {
            put("by", "s" + below(switches));
        }
        put(";");
    }

    private void putMode(int m) {
        put("mode", "m" + m, "" + below(4));
        if (chance(40)) {
            put("time", "" + (1 + below(6)));
        }
        put(";");
        for (int i = below(restless ? 9 : 6); i > 0; i--) {
            put("on", chance(35) ? "begin" : chance(40) ? "stop" : "s" + below(switches));
            if (chance(restless ? 10 : 30)) {
                put("if");
                putRel();
                while (chance(20)) {
                    put("and");
                    putRel();
                }
            }
            put(":");
            putAct();
            while (chance(50) && tokens.size() < 900) {
                put(",");
                putAct();
            }
            put(";");
        }
        put("end");
    }

    private void putRel() {
        putSum(2);
        put(new String[] {"==", "!=", "<", "<="}[below(4)]);
        putSum(2);
    }

    private void putSum(int deep) {
        if (chance(20)) {
            put("-");
        }
        putUnit(deep);
        while (chance(30)) {
            put(new String[] {"+", "-", "*", "*"}[below(4)]);
            putUnit(deep);
        }
    }

    private void putUnit(int deep) {
        if (deep > 0 && chance(15)) {
            put("(");
            putSum(deep - 1);
            put(")");
        } else if (vars > 0 && chance(40)) {
            put("v" + below(vars));
        } else if (chance(30)) {
            put(chance(50) ? "left" : "balls");
        } else {
            put("" + (chance(10) ? below(100000) : below(6)));
        }
    }

    private void putAct() {
        switch (restless && chance(60) ? 7 + below(7) : below(20)) {
            case 0, 1, 2, 3 -> {
                put("score");
                putSum(2);
            }
            case 4, 5, 6 -> {
                if (vars > 0) {
                    put("set", "v" + below(vars));
                    putSum(2);
                } else {
                    put("serve");
                }
            }
            case 7, 8, 9, 10, 11 -> put("start", "m" + below(modes));
            case 12, 13 -> put("leave");
            case 14, 15 -> {
                if (coils > 0) {
                    put("fire", "c" + below(coils));
                } else {
                    put("leave");
                }
            }
            case 16 -> put("hold");
            case 17 -> put("drain");
            case 18 -> put("serve");
            default -> put(chance(20) ? "tilt" : "drain");
        }
    }

    /** The tokens as a text: with blanks where two would grow together, and here and there without need. */
    String text(List<String> some) {
        StringBuilder text = new StringBuilder();
        for (String token : some) {
            char first = token.charAt(0);
            boolean grows = text.length() > 0 && Character.isLetterOrDigit(first)
                    && Character.isLetterOrDigit(text.charAt(text.length() - 1));
            if (grows || chance(15)) {
                text.append(" \n\t\r".charAt(chance(80) ? 0 : below(4)));
            }
            text.append(token);
        }
        return text.toString();
    }

    /** A sound table, as a text of at most 4,000 bytes. */
    String sound() {
        String text = text(tokens());
        while (text.length() > 4000) {
            text = text(tokens());
        }
        return text;
    }

    /** A table with some tokens changed, left out, told again, or cut off. */
    String spoiled() {
        List<String> all = new ArrayList<>(tokens());
        String[] others = {"s0", "c0", "l1", "p0", "v0", "m0", "x", "switch", "mode", "on", "begin", "end", "if", ":",
            ";", ",", "(", ")", "+", "-", "*", "==", "<", "<=", "!=", "7", "0", "score", "start", "time", "by", "and",
            "left", "hold", "toolongname", "123456", "=", "!", "A", "é", "\u0000", "&", "place", "way", "lamp", "12345",
            "longname", "set", "fire", "stop", "balls"};
        for (int i = 1 + below(3); i > 0 && !all.isEmpty(); i--) {
            int at = below(all.size());
            switch (below(5)) {
                case 0 -> all.remove(at);
                case 1 -> all.add(at, others[below(others.length)]);
                case 2 -> all.add(at, all.get(below(all.size())));
                default -> all.set(at, chance(50) ? others[below(others.length)] : all.get(below(all.size())));
            }
        }
        String text = text(chance(15) ? all.subList(0, below(all.size() + 1)) : all);
        return text.length() > 4000 ? text.substring(0, 4000) : text;
    }

    /** A table in which some names are others, or a time is 0, but all is where it should be. */
    String misnamed() {
        List<String> all = new ArrayList<>(tokens());
        List<Integer> spots = new ArrayList<>();
        for (int i = 0; i < all.size(); i++) {
            if (all.get(i).matches("[a-z][0-9]+") || i > 0 && all.get(i - 1).equals("time")) {
                spots.add(i);
            }
        }
        for (int i = 1 + below(3); i > 0 && !spots.isEmpty(); i--) {
            int at = spots.get(below(spots.size()));
            boolean isTime = at > 0 && all.get(at - 1).equals("time");
            String other = all.get(spots.get(below(spots.size())));
            if (isTime) {
                all.set(at, chance(50) ? "0" : "00000");
            } else if (Character.isLetter(other.charAt(0))) {
                all.set(at, chance(20) ? "other" : other);
            }
        }
        String text = text(all);
        return text.length() > 4000 ? text.substring(0, 4000) : text;
    }

    /** A table with more of something than there is room for, or just as much as there is. */
    String crowded() {
        StringBuilder text = new StringBuilder("switch s 0;coil c 0;coil d 0;place p;place q;var v 0;");
        String[] parts = {"switch a%d 0;", "coil a%d 0;", "apart c d;", "lamp a%d s;", "place a%d;", "way p q;",
            "var a%d 0;"};
        int[] rooms = {15, 6, 8, 16, 6, 24, 15};
        for (int i = 0; i < parts.length; i++) {
            int many = chance(20) ? rooms[i] + below(2) : below(rooms[i]);
            for (int k = 0; k < many; k++) {
                text.append(parts[i].replace("%d", i + "x" + k));
            }
        }
        int most = chance(30) ? 12 + below(2) : 1 + below(12);
        for (int m = 0; m < most; m++) {
            text.append("mode n").append(m).append(" 0;");
            for (int i = below(14); i > 0; i--) {
                text.append("on s:drain");
                for (int k = chance(10) ? 10 + below(3) : 0; k > 0; k--) {
                    text.append(",drain");
                }
                if (chance(10)) {
                    int deep = 5 + below(3);
                    text.append(",score ").append("(".repeat(deep)).append('1').append(")".repeat(deep));
                }
                text.append(';');
            }
            text.append("end ");
        }
        return text.length() > 4000 ? text.substring(0, 4000) : text.toString();
    }
}
