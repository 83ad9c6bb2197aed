import java.lang.management.ManagementFactory;
import java.lang.reflect.Constructor;
import java.lang.reflect.Field;
import java.lang.reflect.Method;
import java.lang.reflect.Modifier;
import java.nio.charset.StandardCharsets;
import java.nio.file.Files;
import java.nio.file.Path;
import java.util.ArrayList;
import java.util.Collections;
import java.util.List;
import java.util.Random;
import java.util.regex.Matcher;
import java.util.regex.Pattern;

/** The face of the document, rules of LANGUAGE.md that a text search shows, any arguments, and how many objects are made. */
public final class RulesTest {
    private static final Due DUE = new Due("RulesTest");
    private static final String[] FACE = {
        "feed(int,long)", "party()", "chair(int)", "walker(int,int,int)", "set(int,int,int)", "player(int,int)",
        "form(int)", "seed(int)", "of(int,int)", "has(int)", "haste(int,int)", "go(int)", "stop()", "sits(int)",
        "would(int)", "odds(int,int)", "fair(int)", "bestSlow(int,int)", "cheat(int,int)", "lasts(int)",
        "wins(int,int,int)", "fairest(int,int)", "shortest()", "row(int)", "could()", "next(int)",
        "team(int,int,int,int)", "film(int)", "judge(int)", "image()", "restore()", "count(int)"};

    public static void main(String[] args) throws Exception {
        face();
        words();
        anyArguments();
        objects();
        DUE.end();
    }

    private static void face() {
        Class<?> c = ChairTooFew.class;
        DUE.is("public and final", c.getModifiers(), Modifier.PUBLIC | Modifier.FINAL);
        DUE.is("no superclass", c.getSuperclass() == Object.class ? 1 : 0, 1);
        DUE.is("no interfaces", c.getInterfaces().length, 0);
        List<String> methods = new ArrayList<>();
        List<String> names = new ArrayList<>();
        for (Method m : c.getDeclaredMethods()) {
            if (Modifier.isPrivate(m.getModifiers()) || m.isSynthetic()) continue;
            DUE.is(m + " is public", m.getModifiers(), Modifier.PUBLIC);
            DUE.is(m + " answers an int", m.getReturnType() == int.class ? 1 : 0, 1);
            StringBuilder s = new StringBuilder(m.getName()).append('(');
            for (Class<?> p : m.getParameterTypes()) s.append(s.charAt(s.length() - 1) == '(' ? "" : ",").append(p);
            methods.add(s.append(')').toString());
            names.add(m.getName());
        }
        List<String> due = new ArrayList<>(List.of(FACE));
        Collections.sort(due);
        Collections.sort(methods);
        DUE.is("the face " + methods, methods.equals(due) ? 1 : 0, 1);
        for (Field f : c.getDeclaredFields()) {
            DUE.is(f + " is private", Modifier.isPrivate(f.getModifiers()) ? 1 : 0, 1);
            DUE.is(f + " is final, if static", !Modifier.isStatic(f.getModifiers())
                || Modifier.isFinal(f.getModifiers()) ? 1 : 0, 1);
        }
        Constructor<?>[] made = c.getDeclaredConstructors();
        DUE.is("one constructor", made.length, 1);
        DUE.is("without arguments, public", made[0].getParameterCount() + made[0].getModifiers(), Modifier.PUBLIC);
        Class<?>[] inside = c.getDeclaredClasses();
        DUE.is("at most some twelve classes", inside.length <= 12 ? 1 : 0, 1);
        for (Class<?> k : inside) insideClass(k, names);
        for (Method m : c.getDeclaredMethods()) {
            if (Modifier.isPrivate(m.getModifiers())) {
                DUE.is("no private " + m, names.contains(m.getName()) ? 1 : 0, 0);
            }
        }
    }

    private static void insideClass(Class<?> k, List<String> names) {
        DUE.is(k + " is static", Modifier.isStatic(k.getModifiers()) ? 1 : 0, 1);
        DUE.is(k + " is not public", k.getModifiers() & (Modifier.PUBLIC | Modifier.PROTECTED), 0);
        int fields = 0;
        for (Field f : k.getDeclaredFields()) {
            if (!Modifier.isStatic(f.getModifiers())) fields++;
            DUE.is(f + " is final, if static", !Modifier.isStatic(f.getModifiers())
                || Modifier.isFinal(f.getModifiers()) ? 1 : 0, 1);
        }
        DUE.is(k + " has at most some twenty fields", fields <= 20 ? 1 : 0, 1);
        for (Method m : k.getDeclaredMethods()) {
            DUE.is("no " + m, names.contains(m.getName()) ? 1 : 0, 0);
            DUE.is("parameters of " + m, m.getParameterCount() <= 7 ? 1 : 0, 1);
        }
    }

    private static void words() throws Exception {
        String source = Files.readString(Path.of("src/main/java/ChairTooFew.java"), StandardCharsets.US_ASCII);
        String code = source.replaceAll("(?s)/\\*.*?\\*/", " ").replaceAll("//[^\n]*", " ")
            .replaceAll("\"[^\"\n]*\"", "\"\"");
        String[] ruledOut = {"import", "package", "throw", "throws", "try", "catch", "finally", "synchronized", "assert",
            "Exact\\b", "System\\.(?!arraycopy)\\w+", "Thread", "Random", "->", "::", "\\bvar\\b", "equals", "hashCode",
            "toString", "float", "double", "yield", "native", "volatile", "transient", "@\\w+", "protected",
            "MAX_VALUE", "MIN_VALUE", "Object", "Exception", "Error", "while\\s*\\(\\s*true", "for\\s*\\(\\s*;\\s*;"};
        for (String word : ruledOut) {
            Matcher m = Pattern.compile(word.matches("\\w+") ? "\\b" + word + "\\b" : word).matcher(code);
            DUE.is("'" + word + "' stands in the class", m.find() ? 1 : 0, 0);
        }
        int longest = 0;
        int length = 0;
        for (String line : source.split("\n")) {
            length = line.matches(" {4}( {4})?\\S.*\\{$") ? 0 : length + 1;
            if (line.matches(" {4}( {4})?}$")) longest = Math.max(longest, line.startsWith("        }") ? length : 0);
        }
        DUE.is("methods are short: " + longest, longest <= 60 ? 1 : 0, 1);
    }

    private static int any(Random r) {
        int[] edges = {Integer.MIN_VALUE, Integer.MAX_VALUE, -1, 0, 1, 11, 12, 24, 60, 61, 99, 100, 200, 201, 300, 301};
        int k = r.nextInt(8);
        return k == 0 ? r.nextInt() : k < 3 ? edges[r.nextInt(edges.length)] : k < 6 ? r.nextInt(12) : r.nextInt(100);
    }

    private static int call(ChairTooFew x, int which, Random r) {
        switch (which) {
            case 0: return x.feed(any(r), r.nextLong());
            case 1: return x.party();
            case 2: return x.chair(any(r));
            case 3: return x.walker(any(r), any(r), any(r));
            case 4: return x.set(any(r), any(r), any(r));
            case 5: return x.player(any(r), any(r));
            case 6: return x.form(any(r));
            case 7: return x.seed(any(r));
            case 8: return x.of(any(r), any(r));
            case 9: return x.has(any(r));
            case 10: return x.haste(any(r), any(r));
            case 11: return x.go(any(r));
            case 12: return x.stop();
            case 13: return x.sits(any(r));
            case 14: return x.would(any(r));
            case 15: return x.odds(any(r), any(r));
            case 16: return x.fair(any(r));
            case 17: return x.bestSlow(any(r), any(r));
            case 18: return x.cheat(any(r), any(r));
            case 19: return x.lasts(any(r));
            case 20: return x.wins(any(r), any(r), any(r));
            case 21: return x.fairest(any(r), any(r));
            case 22: return x.shortest();
            case 23: return x.row(any(r));
            case 24: return x.could();
            case 25: return x.next(any(r));
            case 26: return x.team(any(r), any(r), any(r), any(r));
            case 27: return x.film(any(r));
            case 28: return x.judge(any(r));
            case 29: return x.image();
            case 30: return x.restore();
            default: return x.count(any(r));
        }
    }

    private static void anyArguments() {
        for (int run = 0; run < 400; run++) {
            Random r = new Random(run);
            ChairTooFew x = new ChairTooFew();
            for (int i = 0; i < 512; i++) {
                int which = i < 60 ? 2 + r.nextInt(2) : r.nextInt(32);
                boolean fine = true;
                try {
                    call(x, which, r);
                } catch (RuntimeException | Error e) {
                    System.out.println("run " + run + ", call " + i + ", kind " + which + ": " + e);
                    fine = false;
                }
                DUE.is("any arguments", fine ? 1 : 0, 1);
            }
        }
    }

    // A run of 512 calls makes no more than its object itself: no call makes an object.
    private static void objects() {
        com.sun.management.ThreadMXBean bean = (com.sun.management.ThreadMXBean) ManagementFactory.getThreadMXBean();
        if (!bean.isThreadAllocatedMemorySupported()) return;
        long me = Thread.currentThread().getId();
        ChairTooFew x = new ChairTooFew();
        for (int i = 0; i < 11; i++) x.chair(2 * i);
        for (int i = 0; i < 12; i++) x.walker(i, i % 7, 40 + i);
        Random r = new Random(5);
        for (int warm = 0; warm < 2; warm++) {
            long before = bean.getThreadAllocatedBytes(me);
            for (int i = 0; i < 512; i++) call(x, i % 32, r);
            long made = bean.getThreadAllocatedBytes(me) - before;
            // The test's own rows of edges are 512 calls of some 400 bytes at most.
            DUE.is("bytes of 512 calls: " + made, warm == 0 || made < 512 * 500 ? 1 : 0, 1);
        }
        long before = bean.getThreadAllocatedBytes(me);
        x.fairest(20, 7);
        x.cheat(0, 200);
        x.shortest();
        x.team(0, 1, 200, 0);
        x.fair(200);
        x.party();
        long made = bean.getThreadAllocatedBytes(me) - before;
        DUE.is("bytes of the dearest calls: " + made, made < 1000 ? 1 : 0, 1);
    }
}
