import java.io.IOException;
import java.lang.reflect.InvocationTargetException;
import java.lang.reflect.Method;
import java.nio.ByteBuffer;
import java.nio.charset.StandardCharsets;
import java.nio.file.Files;
import java.nio.file.Path;
import java.util.List;
import java.util.regex.Matcher;
import java.util.regex.Pattern;

/** README.md tells the truth: its example answers as it says, and it names all that is there. */
public final class ReadmeTest {
    private static final Check CHECK = new Check();
    private static final Pattern CALL = Pattern.compile("x\\.(\\w+)\\(([^)]*)\\); *// (-?\\d+).*");

    private ReadmeTest() {
    }

    public static void main(String[] args) throws IOException, IllegalAccessException, InvocationTargetException {
        List<String> page = Files.readAllLines(Path.of("README.md"));
        example(page);
        snippet(page);
        names(String.join("\n", page));
        CHECK.end("ReadmeTest");
    }

    private static void yes(String what, boolean holds) {
        CHECK.due(what, holds ? 1 : 0, 1);
    }

    private static void example(List<String> page) throws IllegalAccessException, InvocationTargetException {
        CHECK.at("the example");
        SlopeCompiler x = new SlopeCompiler();
        int calls = 0;
        for (String line : page) {
            Matcher call = CALL.matcher(line);
            if (call.matches()) {
                calls++;
                CHECK.due(line, answer(x, call.group(1), call.group(2).split(", *")), Integer.parseInt(call.group(3)));
            }
        }
        yes("the example has calls", calls >= 20);
    }

    private static int answer(SlopeCompiler x, String name, String[] words) throws IllegalAccessException, InvocationTargetException {
        Object[] numbers = new Object[words.length];
        for (int i = 0; i < words.length; i++) {
            numbers[i] = Integer.decode(words[i]);
        }
        for (Method m : SlopeCompiler.class.getMethods()) {
            if (m.getName().equals(name) && m.getDeclaringClass() == SlopeCompiler.class) {
                return (Integer) m.invoke(x, numbers);
            }
        }
        throw new IllegalStateException("no method " + name);
    }

    /** The page has this very method. */
    static int compile(SlopeCompiler x, String text) {
        ByteBuffer bytes = ByteBuffer.allocate((text.length() + 19) / 20 * 20);
        bytes.put(text.getBytes(StandardCharsets.ISO_8859_1)).rewind();
        while (bytes.hasRemaining()) {
            x.feed(bytes.getInt(), bytes.getInt(), bytes.getInt(), bytes.getInt(), bytes.getInt());
        }
        return x.text(text.length());
    }

    private static void snippet(List<String> page) throws IOException {
        CHECK.at("compile");
        int first = page.indexOf("static int compile(SlopeCompiler x, String text) {");
        int last = first < 0 ? -1 : page.subList(first, page.size()).indexOf("}") + first;
        yes("the page has it", first >= 0 && last > first);
        String here = Files.readString(Path.of("src/test/java/ReadmeTest.java"));
        StringBuilder there = new StringBuilder();
        for (String line : page.subList(Math.max(first, 0), Math.max(last, 0) + 1)) {
            there.append("    ").append(line).append("\n");
        }
        yes("the page has it as it stands here", here.contains(there));
        SlopeCompiler x = new SlopeCompiler();
        CHECK.due("nothing", compile(x, ""), 0);
        CHECK.due("two LINES", compile(x, "in first;out 1+first;"), -1);
        CHECK.due("at a word that is too long", x.fault(1), 3);
        CHECK.due("two LINES", compile(x, "in frst;\nout 1 + frst * 20;"), 2);
        CHECK.due("the SLOPE", x.slope(0, 0), 20);
        CHECK.due("900 bytes", compile(x, "out 1;".repeat(150)), 150);
        CHECK.due("901 bytes", compile(x, "out 1;".repeat(150) + " "), -2);
    }

    private static void names(String page) throws IOException {
        CHECK.at("names");
        for (Method m : SlopeCompiler.class.getDeclaredMethods()) {
            if (java.lang.reflect.Modifier.isPublic(m.getModifiers())) {
                yes("the page names " + m.getName(), page.contains("`" + m.getName() + "` ("));
            }
        }
        for (Class<?> c : SlopeCompiler.class.getDeclaredClasses()) {
            yes("the page names " + c.getSimpleName(), page.contains("`" + c.getSimpleName() + "`"));
        }
        try (var files = Files.list(Path.of("src/test/java"))) {
            files.forEach(f -> {
                String name = f.getFileName().toString().replace(".java", "");
                yes("the page names " + name, page.contains("`" + name + "`"));
            });
        }
        yes("the page tells how the tests are run", page.contains("bash .ci/run"));
    }
}
