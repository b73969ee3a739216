import java.io.IOException;
import java.lang.reflect.Constructor;
import java.lang.reflect.Field;
import java.lang.reflect.Method;
import java.lang.reflect.Modifier;
import java.nio.file.Files;
import java.nio.file.Path;
import java.util.Set;
import java.util.TreeSet;
import java.util.regex.Matcher;
import java.util.regex.Pattern;

/** The rules of ../shared/LANGUAGE.md that can be seen from outside: the face, the words used, how long methods are. */
public final class LanguageTests {
    private static final Path SOURCE = Path.of("src/main/java/WidowWeight.java");

    private static final String[] FACE = {
        "int market()", "int keeper(int,int,int)", "int held(int,int)", "int balance(int)", "int type(int)",
        "int clear()", "int read()", "int visit(int,int)", "int day(int)", "int undo()", "int of(int,int)",
        "int then(int,int)", "int off(int,int)", "int load(int,int,int)", "int gain(int,int)", "int round(int,int)",
        "int gifts(int)", "int tips(int,int,int)", "int reading(int,int,int)", "int maybe(int)", "int lift()",
        "int note(int,int,int,int)", "int tipped(int,int,int,int)", "int forget(int)", "int is(int)", "int watch(int)",
        "int who(int)", "int lay(int)", "int buyers(int,int)", "int refusals(int,int,int)", "int years(int,int)",
        "long part(int)", "int image(int)", "int from(int)", "int status(int)", "int count(int)", "long digest()"
    };

    private LanguageTests() {
    }

    public static void main(String[] args) throws IOException {
        String source = Files.readString(SOURCE);
        String code = withoutComments(source);
        face();
        names();
        words(code);
        lengths(code);
        for (int i = 0; i < source.length(); i++) {
            if (source.charAt(i) > 126) {
                Check.that("a plain sign at " + i, false);
            }
        }
        Check.end();
    }

    private static void face() {
        Check.that("the class is public and final",
            WidowWeight.class.getModifiers() == (Modifier.PUBLIC | Modifier.FINAL));
        Set<String> due = new TreeSet<>(Set.of(FACE));
        for (Method m : WidowWeight.class.getDeclaredMethods()) {
            if (Modifier.isPrivate(m.getModifiers())) {
                continue;
            }
            StringBuilder told = new StringBuilder(m.getReturnType() + " " + m.getName() + "(");
            for (Class<?> type : m.getParameterTypes()) {
                told.append(told.charAt(told.length() - 1) == '(' ? "" : ",").append(type);
            }
            Check.that("in the face: " + told.append(')'), due.remove(told.toString()));
            Check.that("public alone: " + told, m.getModifiers() == Modifier.PUBLIC);
        }
        Check.that("missing: " + due, due.isEmpty());
        Set<String> constants = new TreeSet<>(Set.of("NONE", "BAD", "NO", "FULL"));
        for (Field f : WidowWeight.class.getDeclaredFields()) {
            Check.that("a constant or private: " + f, Modifier.isPrivate(f.getModifiers()) || constants.remove(f.getName()));
        }
        Check.that("missing: " + constants, constants.isEmpty());
        for (Constructor<?> c : WidowWeight.class.getDeclaredConstructors()) {
            Check.that("the constructor: " + c, c.getParameterCount() == 0 && Modifier.isPublic(c.getModifiers()));
        }
    }

    private static void names() {
        Set<String> open = new TreeSet<>();
        for (Method m : WidowWeight.class.getDeclaredMethods()) {
            if (Modifier.isPublic(m.getModifiers())) {
                open.add(m.getName());
            }
        }
        Class<?>[] inside = WidowWeight.class.getDeclaredClasses();
        Check.that("some twelve classes at most: " + (inside.length + 1), inside.length + 1 <= 12);
        for (Method m : WidowWeight.class.getDeclaredMethods()) {
            Check.that("a name of its own: " + m, Modifier.isPublic(m.getModifiers()) || !open.contains(m.getName()));
        }
        int most = fields(WidowWeight.class);
        for (Class<?> c : inside) {
            Check.that("static: " + c, Modifier.isStatic(c.getModifiers()));
            Check.that("not public: " + c, !Modifier.isPublic(c.getModifiers()) && !Modifier.isProtected(c.getModifiers()));
            Check.that("no classes inside: " + c, c.getDeclaredClasses().length == 0);
            most = Math.max(most, fields(c));
            for (Method m : c.getDeclaredMethods()) {
                Check.that("a name of its own: " + m, !open.contains(m.getName()));
                Check.that("seven parameters at most: " + m, m.getParameterCount() <= 7);
            }
        }
        Check.that("some twenty fields at most: " + most, most <= 20);
    }

    private static int fields(Class<?> c) {
        int fields = 0;
        for (Field f : c.getDeclaredFields()) {
            boolean fixed = Modifier.isStatic(f.getModifiers());
            fields += fixed ? 0 : 1;
            Check.that("a static field is final: " + f, !fixed || Modifier.isFinal(f.getModifiers()));
        }
        return fields;
    }

    private static void words(String code) {
        String[] none = {"import", "package", "throw", "throws", "try", "catch", "finally", "synchronized", "assert",
            "volatile", "native", "var", "yield", "System", "Thread", "Object", "equals", "hashCode", "toString",
            "addExact", "multiplyExact", "Random", "double", "float"};
        for (String word : none) {
            Check.that("no word " + word, !Pattern.compile("\\b" + word + "\\b").matcher(code).find());
        }
        Check.that("no lambda", !code.contains("->"));
        Check.that("no method reference", !code.contains("::"));
        Check.that("no joining of texts by +", !Pattern.compile("\"\\s*\\+|\\+\\s*\"").matcher(code).find());
    }

    private static void lengths(String code) {
        Matcher m = Pattern.compile("(?m)^( {4}| {8})(\\w[^;=\\n]*\\([^;{]*\\)) \\{\\n").matcher(code);
        int methods = 0;
        while (m.find()) {
            int end = code.indexOf("\n" + m.group(1) + "}", m.end() - 1);
            long lines = code.substring(m.end(), Math.max(end, m.end())).lines().count();
            methods++;
            Check.that("sixty lines at most: " + m.group(2) + " has " + lines, end > 0 && lines <= 60);
        }
        Check.that("methods were found: " + methods, methods > 100);
    }

    private static String withoutComments(String source) {
        return source.replaceAll("(?s)/\\*.*?\\*/", "").replaceAll("//[^\\n]*", "");
    }
}
