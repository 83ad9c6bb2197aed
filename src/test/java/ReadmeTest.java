import java.io.IOException;
import java.lang.reflect.Method;
import java.lang.reflect.Modifier;
import java.net.URL;
import java.net.URLClassLoader;
import java.nio.charset.StandardCharsets;
import java.nio.file.Files;
import java.nio.file.Path;
import java.util.ArrayList;
import java.util.List;
import java.util.regex.Matcher;
import java.util.regex.Pattern;
import javax.tools.JavaCompiler;
import javax.tools.ToolProvider;

/** README.md: its blocks of code compile and answer what stands behind them; its table has every call. */
public final class ReadmeTest {
    private static final Due DUE = new Due("ReadmeTest");
    private static final Pattern BLOCK = Pattern.compile("```java\n(.*?)```", Pattern.DOTALL);
    private static final Pattern ANSWERED = Pattern.compile("(\\w.*\\));\\s*// (-?\\d+)(:.*)?");
    private static final Pattern ROW = Pattern.compile("(?m)^\\| `(\\w+)\\(([^)]*)\\)` \\|");

    public static void main(String[] args) throws Exception {
        String readme = Files.readString(Path.of("README.md"), StandardCharsets.UTF_8);
        table(readme);
        blocks(readme);
        DUE.end();
    }

    private static void table(String readme) {
        List<String> told = new ArrayList<>();
        Matcher row = ROW.matcher(readme);
        while (row.find()) {
            int arguments = row.group(2).isEmpty() ? 0 : row.group(2).split(",").length;
            told.add(row.group(1) + " " + arguments);
        }
        int calls = 0;
        for (Method m : ChairTooFew.class.getDeclaredMethods()) {
            if (!Modifier.isPublic(m.getModifiers())) continue;
            calls++;
            DUE.is("the table has " + m.getName(), told.contains(m.getName() + " " + m.getParameterCount()) ? 1 : 0, 1);
            DUE.is("the blocks use " + m.getName(), readme.contains("." + m.getName() + "(") ? 1 : 0, 1);
        }
        DUE.is("no other row in the table", told.size(), calls);
    }

    private static void blocks(String readme) throws Exception {
        StringBuilder helpers = new StringBuilder();
        StringBuilder lines = new StringBuilder();
        Matcher block = BLOCK.matcher(readme);
        while (block.find()) {
            if (block.group(1).startsWith("static ")) {
                helpers.append(block.group(1));
            } else {
                for (String line : block.group(1).split("\n")) lines.append(asked(line)).append('\n');
            }
        }
        int answers = run("public final class ReadmeBlocks {\n" + helpers
            + "public static int run(java.util.function.BiConsumer<String, int[]> due) {\nint n = 0;\n"
            + lines + "return n;\n}\n}\n");
        DUE.is("each call of the blocks was asked", answers, readme.split(";\\s*// -?\\d", -1).length - 1);
        DUE.is("there are some", answers > 40 ? 1 : 0, 1);
    }

    /** A line of a block, so that its answer is compared; a line that only makes an object as it is. */
    private static String asked(String line) {
        Matcher m = ANSWERED.matcher(line);
        if (!m.matches()) {
            DUE.is("a line without an answer makes an object: " + line, line.contains("new ChairTooFew()") ? 1 : 0, 1);
            return line;
        }
        String shown = m.group(1).replace("\"", "'");
        return "n++; due.accept(\"" + shown + "\", new int[] {" + m.group(1) + ", " + m.group(2) + "});";
    }

    private static int run(String source) throws Exception {
        JavaCompiler javac = ToolProvider.getSystemJavaCompiler();
        DUE.is("there is a compiler", javac != null ? 1 : 0, 1);
        if (javac == null) return -1;
        Path out = Files.createTempDirectory("readme");
        try {
            Path file = Files.writeString(out.resolve("ReadmeBlocks.java"), source);
            int code = javac.run(null, null, null, "-d", out.toString(),
                "-cp", System.getProperty("java.class.path"), file.toString());
            DUE.is("the blocks compile", code, 0);
            return code != 0 ? -1 : runClass(out);
        } finally {
            for (String name : new String[] {"ReadmeBlocks.java", "ReadmeBlocks.class"}) Files.deleteIfExists(out.resolve(name));
            Files.deleteIfExists(out);
        }
    }

    private static int runClass(Path out) throws IOException, ReflectiveOperationException {
        try (URLClassLoader loader = new URLClassLoader(new URL[] {out.toUri().toURL()})) {
            java.util.function.BiConsumer<String, int[]> due = (call, pair) -> DUE.is(call, pair[0], pair[1]);
            Method run = loader.loadClass("ReadmeBlocks").getMethod("run", java.util.function.BiConsumer.class);
            return (int) run.invoke(null, due);
        }
    }
}
