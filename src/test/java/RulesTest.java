import java.io.IOException;
import java.lang.reflect.Array;
import java.lang.reflect.Constructor;
import java.lang.reflect.Field;
import java.lang.reflect.Method;
import java.lang.reflect.Modifier;
import java.nio.file.Files;
import java.nio.file.Path;
import java.util.IdentityHashMap;
import java.util.List;
import java.util.Map;
import java.util.Set;
import java.util.TreeSet;

/** What of LANGUAGE.md can be seen by a look at the source and at the classes. */
public final class RulesTest {
    private static final Check CHECK = new Check();
    private static final Path SOURCE = Path.of("src/main/java/SlopeCompiler.java");
    private static final Set<String> FACE = Set.of("feed/5", "text/1", "fault/1", "set/3", "code/2", "row/2", "variable/2",
            "cell/2", "out/2", "run/1", "path/1", "entry/2", "slope/2", "bar/2", "second/3", "turned/6", "determinant/1",
            "rank/0", "newton/3", "change/3", "degree/2", "bends/1", "hangs/3", "back/2", "cost/2", "few/2", "split/2",
            "states/2", "action/4", "actions/3", "fraction/2", "count/1");

    private RulesTest() {
    }

    public static void main(String[] args) throws IOException, IllegalAccessException {
        face();
        insideClasses();
        source();
        room();
        CHECK.end("RulesTest");
    }

    private static void yes(String what, boolean holds) {
        CHECK.due(what, holds ? 1 : 0, 1);
    }

    private static void face() {
        CHECK.at("rule 1");
        Class<?> c = SlopeCompiler.class;
        yes("public and final", Modifier.isPublic(c.getModifiers()) && Modifier.isFinal(c.getModifiers()));
        Set<String> found = new TreeSet<>();
        for (Method m : c.getDeclaredMethods()) {
            if (Modifier.isPublic(m.getModifiers())) {
                found.add(m.getName() + "/" + m.getParameterCount());
                yes(m + " answers an int, no static one", m.getReturnType() == int.class && !Modifier.isStatic(m.getModifiers()));
                for (Class<?> p : m.getParameterTypes()) {
                    yes(m + " takes ints", p == int.class);
                }
                CHECK.due(m + " throws", m.getExceptionTypes().length, m.getName().equals("code") ? 2 : 0);
            } else {
                yes(m + " is private", Modifier.isPrivate(m.getModifiers()));
            }
        }
        yes("the face: " + found, found.equals(FACE));
        CHECK.due("constructors", c.getDeclaredConstructors().length, 1);
        CHECK.due("public constructors without parameters", c.getConstructors()[0].getParameterCount(), 0);
        for (Field f : c.getDeclaredFields()) {
            yes(f + " is private or NONE", Modifier.isPrivate(f.getModifiers()) || f.getName().equals("NONE"));
        }
    }

    private static void insideClasses() {
        Class<?>[] inside = SlopeCompiler.class.getDeclaredClasses();
        CHECK.at("rules 2, 5, 11");
        yes("at most twelve classes", inside.length + 1 <= 12);
        fieldsAndMethods(SlopeCompiler.class);
        for (Class<?> c : inside) {
            yes(c + " is static", Modifier.isStatic(c.getModifiers()));
            yes(c + " is not public", !Modifier.isPublic(c.getModifiers()) && !Modifier.isProtected(c.getModifiers()));
            fieldsAndMethods(c);
            for (Method m : c.getDeclaredMethods()) {
                yes(m + " has no name of the face",
                        FACE.stream().noneMatch(f -> f.substring(0, f.indexOf('/')).equals(m.getName())));
            }
        }
    }

    private static void fieldsAndMethods(Class<?> c) {
        int own = 0;
        for (Field f : c.getDeclaredFields()) {
            if (Modifier.isStatic(f.getModifiers())) {
                yes(f + " is final", Modifier.isFinal(f.getModifiers()));
                yes(f + " is a constant", f.getType().isPrimitive() || f.getType() == String.class);
            } else {
                own++;
            }
        }
        yes(c + " has at most twenty fields", own <= 20);
        for (Method m : c.getDeclaredMethods()) {
            yes(m + " has at most seven parameters", m.getParameterCount() <= 7);
        }
        for (Constructor<?> m : c.getDeclaredConstructors()) {
            yes(m + " has at most seven parameters", m.getParameterCount() <= 7);
        }
    }

    private static void source() throws IOException {
        CHECK.at("rules 3 to 12, in the source");
        List<String> lines = Files.readAllLines(SOURCE);
        int methodStart = 0;
        for (int n = 0; n < lines.size(); n++) {
            String line = lines.get(n);
            String code = line.strip().startsWith("*") || line.strip().startsWith("/*") || line.strip().startsWith("//")
                    ? "" : line.replaceAll("'[^']*'", "0").replaceAll("\"[^\"]*\"", "\"\"");
            String here = "row " + (n + 1) + ": " + line.strip();
            for (String word : List.of("->", "::", "finally", "synchronized", "assert", "Exact", "catch", "try {", "double",
                    "float", "System.out", "Random", "Thread", "static {", "package ", "instanceof", "equals(", "while (true")) {
                yes(here + " is without " + word, !code.contains(word));
            }
            yes(here + " is of ASCII", line.chars().allMatch(c -> c >= 32 && c < 127));
            if (code.contains("import ")) {
                yes(here, code.equals("import java.util.Arrays;") || code.equals("import java.util.NoSuchElementException;"));
            }
            if (code.contains("new ")) {
                yes(here + " makes nothing in a call", code.matches("\\s*(private |static |final )*[\\w\\[\\]]+ \\w+ = new .*;")
                        && !code.startsWith("            ") || code.contains("throw new ") || code.contains("scanner = new"));
            }
            if (code.matches("    (    )?[a-zA-Z].*\\) ?(throws .*)?\\{")) {
                methodStart = n;
            }
            if (code.matches("    (    )?}")) {
                yes(here + " ends a method of at most sixty rows", n - methodStart < 60 || code.equals("    }"));
            }
        }
    }

    /** All that a new object holds, times the calls of a run, must fit the room. */
    private static void room() throws IllegalAccessException {
        CHECK.at("the room");
        Map<Object, Boolean> seen = new IdentityHashMap<>();
        long elements = elementsOf(new SlopeCompiler(), seen);
        System.out.println("a new object: " + seen.size() + " objects and arrays, " + elements + " fields and elements");
        yes("512 new objects have room: objects", 512L * seen.size() < 600000);
        yes("512 new objects have room: elements", 512L * elements < 7300000);
    }

    private static long elementsOf(Object o, Map<Object, Boolean> seen) throws IllegalAccessException {
        if (o == null || seen.put(o, true) != null) {
            return 0;
        }
        if (o.getClass().isArray()) {
            return Array.getLength(o);
        }
        long sum = 0;
        for (Field f : o.getClass().getDeclaredFields()) {
            if (!Modifier.isStatic(f.getModifiers())) {
                f.setAccessible(true);
                sum++;
                sum += f.getType().isPrimitive() ? 0 : elementsOf(f.get(o), seen);
            }
        }
        return sum;
    }
}
