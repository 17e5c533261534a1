import java.io.IOException;
import java.lang.management.ManagementFactory;
import java.lang.reflect.Constructor;
import java.lang.reflect.Field;
import java.lang.reflect.Method;
import java.lang.reflect.Modifier;
import java.nio.file.Files;
import java.nio.file.Path;
import java.util.List;
import java.util.Set;
import java.util.TreeSet;
import java.util.regex.Pattern;

/** The rules of LANGUAGE.md that a look at the source, the class and the room it takes can tell. */
public final class LanguageTest {
    private static final Tally T = new Tally("LanguageTest");
    private static final Path SOURCE = Path.of("src/main/java/SilverBall.java");
    private static final Set<String> FACE = Set.of("feed", "back", "read", "place", "begin", "press", "ticks", "score",
            "told", "coil", "lamp", "value", "mode", "balls", "again", "ring", "count");

    private LanguageTest() {
    }

    public static void main(String[] args) throws IOException {
        source();
        face();
        classesInside();
        room();
        T.close();
    }

    private static void source() throws IOException {
        String all = Files.readString(SOURCE);
        for (char sign : all.toCharArray()) {
            if (sign > 126 || sign < 32 && sign != '\n') {
                T.due("sign in the source", sign, ' ');
            }
        }
        String code = all.replaceAll("(?s)/\\*.*?\\*/", "").replaceAll("//[^\n]*", "");
        List<String> refused = List.of("\\bthrow\\b", "\\btry\\b", "\\bcatch\\b", "\\bsynchronized\\b", "\\bassert\\b",
                "\\bimport\\b", "\\bpackage\\b", "->", "::", "\\binstanceof\\b", "\\bvar\\b\\s+\\w+\\s*=", "\"\\s*\\+",
                "\\+\\s*\"", "\\bSystem\\b", "\\bObject\\b", "\\bThread\\b", "\\bnative\\b", "\\bvolatile\\b", "\\bfloat\\b",
                "\\bdouble\\b", "Exact\\b", "\\bprotected\\b", "for \\([^;)]*:");
        for (String one : refused) {
            T.due("found in the source: " + one, Pattern.compile(one).matcher(code).find(), false);
        }
        int lines = 0;
        for (String line : code.split("\n")) {
            boolean opens = line.matches("( {4}| {8})\\S.*\\) \\{") && !line.contains("class ");
            lines = opens ? 0 : lines + 1;
            if (line.matches("( {4}| {8})\\}")) {
                T.due("a method of " + lines + " lines", lines <= 60 || line.startsWith("    }"), true);
            }
        }
    }

    private static void face() {
        Class<?> face = SilverBall.class;
        T.due("public and final", face.getModifiers() == (Modifier.PUBLIC | Modifier.FINAL), true);
        Set<String> found = new TreeSet<>();
        for (Method method : face.getDeclaredMethods()) {
            boolean isPublic = Modifier.isPublic(method.getModifiers());
            T.due(method + " is public or private", isPublic || Modifier.isPrivate(method.getModifiers()), true);
            T.due(method + " is of the face", FACE.contains(method.getName()), isPublic);
            if (isPublic) {
                found.add(method.getName());
            }
        }
        T.due("all of the face", found.size(), FACE.size());
        for (Field field : face.getDeclaredFields()) {
            boolean isPublic = Modifier.isPublic(field.getModifiers());
            T.due(field + " is public", isPublic, field.getName().equals("NONE"));
            T.due(field + " is private", Modifier.isPrivate(field.getModifiers()), !isPublic);
        }
        for (Constructor<?> constructor : face.getDeclaredConstructors()) {
            T.due(constructor + " takes", constructor.getParameterCount(), 0);
        }
    }

    private static void classesInside() {
        Class<?>[] inside = SilverBall.class.getDeclaredClasses();
        T.due("few classes", inside.length <= 11, true);
        for (Class<?> one : inside) {
            T.due(one + " is static", Modifier.isStatic(one.getModifiers()), true);
            T.due(one + " is public", Modifier.isPublic(one.getModifiers()), false);
            int fields = 0;
            for (Field field : one.getDeclaredFields()) {
                boolean isStatic = Modifier.isStatic(field.getModifiers());
                T.due(field + " is no static state", isStatic && !Modifier.isFinal(field.getModifiers()), false);
                fields += isStatic ? 0 : 1;
            }
            T.due(one + " has " + fields + " fields", fields <= 20, true);
            for (Method method : one.getDeclaredMethods()) {
                T.due(method + " has a name of the face", FACE.contains(method.getName()), false);
                T.due(method + " takes few", method.getParameterCount() <= 7, true);
            }
        }
    }

    /** All rows are made with the object: its calls make nothing. */
    private static void room() {
        com.sun.management.ThreadMXBean room =
                (com.sun.management.ThreadMXBean) ManagementFactory.getThreadMXBean();
        byte[] text = Tally.bytes("switch a 0; coil c 0; lamp l a; place p; place q; way p q by a; var v 1;"
                + "mode m 0; on a: score (v + 1) * 2, set v v + 1, fire c, start n; end mode n 1 time 3; end");
        SilverBall warm = new SilverBall();
        callAll(warm, text);
        long thread = Thread.currentThread().getId();
        long before = room.getThreadAllocatedBytes(thread);
        long nothing = room.getThreadAllocatedBytes(thread) - before;
        before = room.getThreadAllocatedBytes(thread);
        SilverBall x = new SilverBall();
        long made = room.getThreadAllocatedBytes(thread) - before - nothing;
        before = room.getThreadAllocatedBytes(thread);
        callAll(x, text);
        long calls = room.getThreadAllocatedBytes(thread) - before - nothing;
        T.due("an object takes " + made + " bytes", made < 60_000, true);
        T.due("the calls took bytes", calls <= 200, true);
    }

    private static void callAll(SilverBall x, byte[] text) {
        Tally.feed(x, text);
        x.read();
        x.begin();
        for (int i = 0; i < 50; i++) {
            x.press(0);
            x.ticks(3);
            x.lamp(0);
            x.balls(0, true);
            x.again();
            x.ring();
            x.count(10);
            x.mode(0, 1);
            x.told(0, 2);
            x.coil(0, 2);
        }
    }
}
