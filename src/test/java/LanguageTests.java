import java.io.IOException;
import java.io.PrintWriter;
import java.io.StringWriter;
import java.lang.management.ManagementFactory;
import java.lang.reflect.Constructor;
import java.lang.reflect.Field;
import java.lang.reflect.Method;
import java.lang.reflect.Modifier;
import java.nio.file.Files;
import java.nio.file.Path;
import java.util.ArrayList;
import java.util.HashMap;
import java.util.List;
import java.util.Map;
import java.util.Set;
import java.util.TreeSet;
import java.util.regex.Matcher;
import java.util.regex.Pattern;
import java.util.spi.ToolProvider;
import java.util.stream.Stream;

/** The rules of ../shared/LANGUAGE.md that can be seen from outside: the face, the words used, how long methods are. */
public final class LanguageTests {
    private static final Path SOURCE = Path.of("src/main/java/WidowWeight.java");

    private static final String[] FACE = {
        "int market()", "int keeper(int,int,int)", "int held(int,int)", "int balance(int)", "int type(int)",
        "int clear()", "int read()", "int visit(int,int)", "int day(int)", "int undo()", "int of(int,int)",
        "int then(int,int)", "int off(int,int)", "int load(int,int,int)", "int gain(int,int)", "int round(int,int)",
        "int gifts(int)", "int tips(int,int,int)", "int reading(int,int,int)", "int maybe(int)", "int lift()",
        "int note(int,int,int,int)", "int tipped(int,int,int,int)", "int forget(int)", "int is(int)", "int watch(int)",
        "int who(int)", "int lay(int)", "int buyers(int,int)", "int refusals(int,int,int)", "int years(int,int)",
        "long part(int)", "int image(int)", "int from(int)", "int status(int)", "int count(int)", "long digest()"
    };

    private LanguageTests() {
    }

    public static void main(String[] args) throws IOException {
        String source = Files.readString(SOURCE);
        String code = withoutComments(source);
        face();
        names();
        words(code);
        library(code);
        lengths(code);
        depths();
        room();
        for (int i = 0; i < source.length(); i++) {
            if (source.charAt(i) > 126) {
                Check.that("a plain sign at " + i, false);
            }
        }
        Check.end();
    }

    private static void face() {
        Check.that("the class is public and final",
            WidowWeight.class.getModifiers() == (Modifier.PUBLIC | Modifier.FINAL));
        Set<String> due = new TreeSet<>(Set.of(FACE));
        for (Method m : WidowWeight.class.getDeclaredMethods()) {
            if (Modifier.isPrivate(m.getModifiers())) {
                continue;
            }
            StringBuilder told = new StringBuilder(m.getReturnType() + " " + m.getName() + "(");
            for (Class<?> type : m.getParameterTypes()) {
                told.append(told.charAt(told.length() - 1) == '(' ? "" : ",").append(type);
            }
            Check.that("in the face: " + told.append(')'), due.remove(told.toString()));
            Check.that("public alone: " + told, m.getModifiers() == Modifier.PUBLIC);
        }
        Check.that("missing: " + due, due.isEmpty());
        Set<String> constants = new TreeSet<>(Set.of("NONE", "BAD", "NO", "FULL"));
        for (Field f : WidowWeight.class.getDeclaredFields()) {
            Check.that("a constant or private: " + f, Modifier.isPrivate(f.getModifiers()) || constants.remove(f.getName()));
        }
        Check.that("missing: " + constants, constants.isEmpty());
        for (Constructor<?> c : WidowWeight.class.getDeclaredConstructors()) {
            Check.that("the constructor: " + c, c.getParameterCount() == 0 && Modifier.isPublic(c.getModifiers()));
        }
    }

    private static void names() {
        Set<String> open = new TreeSet<>();
        for (Method m : WidowWeight.class.getDeclaredMethods()) {
            if (Modifier.isPublic(m.getModifiers())) {
                open.add(m.getName());
            }
        }
        Class<?>[] inside = WidowWeight.class.getDeclaredClasses();
        Check.that("some twelve classes at most: " + (inside.length + 1), inside.length + 1 <= 12);
        for (Method m : WidowWeight.class.getDeclaredMethods()) {
            Check.that("a name of its own: " + m, Modifier.isPublic(m.getModifiers()) || !open.contains(m.getName()));
        }
        int most = fields(WidowWeight.class);
        for (Class<?> c : inside) {
            Check.that("static: " + c, Modifier.isStatic(c.getModifiers()));
            Check.that("not public: " + c, !Modifier.isPublic(c.getModifiers()) && !Modifier.isProtected(c.getModifiers()));
            Check.that("no classes inside: " + c, c.getDeclaredClasses().length == 0);
            most = Math.max(most, fields(c));
            for (Method m : c.getDeclaredMethods()) {
                Check.that("a name of its own: " + m, !open.contains(m.getName()));
                Check.that("seven parameters at most: " + m, m.getParameterCount() <= 7);
            }
        }
        Check.that("some twenty fields at most: " + most, most <= 20);
    }

    private static int fields(Class<?> c) {
        int fields = 0;
        for (Field f : c.getDeclaredFields()) {
            boolean fixed = Modifier.isStatic(f.getModifiers());
            fields += fixed ? 0 : 1;
            Check.that("a static field is final: " + f, !fixed || Modifier.isFinal(f.getModifiers()));
        }
        return fields;
    }

    private static void words(String code) {
        String[] none = {"import", "package", "throw", "throws", "try", "catch", "finally", "synchronized", "assert",
            "volatile", "native", "var", "yield", "System", "Thread", "Object", "equals", "hashCode", "toString",
            "addExact", "multiplyExact", "Random", "double", "float"};
        for (String word : none) {
            Check.that("no word " + word, !Pattern.compile("\\b" + word + "\\b").matcher(code).find());
        }
        Check.that("no lambda", !code.contains("->"));
        Check.that("no method reference", !code.contains("::"));
        Check.that("no joining of texts by +", !Pattern.compile("\"\\s*\\+|\\+\\s*\"").matcher(code).find());
    }

    /** Of the classes that the library has, only these functions; constants of Integer, too, are not listed. */
    private static void library(String code) {
        Set<String> fine = Set.of("Integer.bitCount", "Integer.compare", "Math.abs", "Math.max", "Math.min");
        Matcher m = Pattern.compile("\\b(?:Integer|Long|Math|Arrays|String|StringBuilder|Character|Boolean)\\.\\w+").matcher(code);
        while (m.find()) {
            Check.that("in the library's list: " + m.group(), fine.contains(m.group()));
        }
        Check.that("no list, no builder", !Pattern.compile("\\b(?:ArrayList|List|StringBuilder)\\b").matcher(code).find());
    }

    /** Calls that are no recursion go at most eight deep; the class has no recursion. */
    private static void depths() throws IOException {
        Map<String, Set<String>> calls = calls();
        Check.that("calls were found: " + calls.size(), calls.size() > 100);
        for (String method : calls.keySet()) {
            int deep = depth(calls, method, 1);
            Check.that("eight deep at most: " + method + " goes " + deep, deep <= 8);
        }
    }

    private static int depth(Map<String, Set<String>> calls, String method, int above) {
        int deepest = above;
        for (String called : calls.get(method)) {
            if (above <= 8 && calls.containsKey(called)) {
                deepest = Math.max(deepest, depth(calls, called, above + 1));
            }
        }
        return deepest;
    }

    /** By javap: for each method of the class and those inside it the methods that it calls. */
    private static Map<String, Set<String>> calls() throws IOException {
        List<String> words = new ArrayList<>(List.of("-c", "-p", "-s"));
        Path home = Path.of(WidowWeight.class.getProtectionDomain().getCodeSource().getLocation().getPath());
        try (Stream<Path> files = Files.list(home)) {
            files.map(Path::toString).filter(f -> f.matches(".*WidowWeight(\\$\\w+)?\\.class")).forEach(words::add);
        }
        StringWriter told = new StringWriter();
        ToolProvider.findFirst("javap").orElseThrow().run(new PrintWriter(told), new PrintWriter(told),
            words.toArray(new String[0]));
        Map<String, Set<String>> calls = new HashMap<>();
        String owner = "";
        String name = "";
        String method = "";
        for (String line : told.toString().split("\\R")) {
            Matcher opens = Pattern.compile("class (\\S+) \\{").matcher(line);
            Matcher heads = Pattern.compile("^  \\S.*?([\\w$]+)\\(.*\\);").matcher(line);
            Matcher shape = Pattern.compile("^    descriptor: (\\S+)").matcher(line);
            Matcher invoked = Pattern.compile("// (?:Interface)?Method (?:(\\S+)\\.)?([^.:]+):(\\S+)").matcher(line);
            if (opens.find()) {
                owner = opens.group(1);
            } else if (heads.find()) {
                name = heads.group(1).equals(owner) ? "\"<init>\"" : heads.group(1);
            } else if (shape.find() && !name.isEmpty()) {
                method = owner + "." + name + shape.group(1);
                calls.put(method, new TreeSet<>());
                name = "";
            } else if (invoked.find()) {
                calls.get(method).add((invoked.group(1) == null ? owner : invoked.group(1)) + "." + invoked.group(2) + invoked.group(3));
            }
        }
        return calls;
    }

    /** All calls of a run share one room: an object is small, and its calls make nothing. */
    private static void room() {
        com.sun.management.ThreadMXBean told = (com.sun.management.ThreadMXBean) ManagementFactory.getThreadMXBean();
        WidowWeight x = Twins.full();
        everyCall(x);
        long before = told.getThreadAllocatedBytes(Thread.currentThread().getId());
        new WidowWeight();
        long made = told.getThreadAllocatedBytes(Thread.currentThread().getId());
        for (int i = 0; i < 5; i++) {
            everyCall(x);
        }
        long called = told.getThreadAllocatedBytes(Thread.currentThread().getId());
        Check.that("an object is small: " + (made - before), made - before < 40000);
        Check.that("calls make nothing: " + (called - made), called - made < 1000);
    }

    private static void everyCall(WidowWeight x) {
        x.from(0);
        x.image(1);
        x.undo();
        x.visit(0, 9);
        x.day(9);
        x.held(1, 9);
        x.load(999, 0, 0);
        x.gain(5, 1);
        x.round(127, 6);
        x.round(127, -1);
        x.gifts(127);
        x.tips(3, 3, 4);
        x.forget(0);
        x.reading(1, 2, 0);
        x.maybe(1);
        x.lift();
        x.forget(1);
        x.note(0, 9, 0, 9);
        x.is(0);
        x.watch(0);
        x.forget(2);
        x.tipped(0, 9, 9, 0);
        x.who(0);
        x.lay(0);
        x.buyers(2, -1);
        x.refusals(127, 9, 5);
        x.years(999999, 60);
        x.then(0, 99);
        x.off(0, 99);
        x.digest();
        x.read();
        x.market();
        x.keeper(1, 1, 1);
        x.balance(1);
        x.type(256);
        x.status(0);
        x.part(0);
        x.count(4);
        x.of(0, 0);
    }

    private static void lengths(String code) {
        Matcher m = Pattern.compile("(?m)^( {4}| {8})(\\w[^;=\\n]*\\([^;{]*\\)) \\{\\n").matcher(code);
        int methods = 0;
        while (m.find()) {
            int end = code.indexOf("\n" + m.group(1) + "}", m.end() - 1);
            long lines = code.substring(m.end(), Math.max(end, m.end())).lines().count();
            methods++;
            Check.that("sixty lines at most: " + m.group(2) + " has " + lines, end > 0 && lines <= 60);
        }
        Check.that("methods were found: " + methods, methods > 100);
    }

    private static String withoutComments(String source) {
        return source.replaceAll("(?s)/\\*.*?\\*/", "").replaceAll("//[^\\n]*", "");
    }
}
