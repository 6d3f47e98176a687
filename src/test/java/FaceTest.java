import java.io.IOException;
import java.lang.reflect.Constructor;
import java.lang.reflect.Field;
import java.lang.reflect.Method;
import java.lang.reflect.Modifier;
import java.nio.file.Files;
import java.nio.file.Path;
import java.util.ArrayList;
import java.util.HashSet;
import java.util.List;
import java.util.Set;
import java.util.TreeSet;
import java.util.regex.Matcher;
import java.util.regex.Pattern;

/** The public face, and what can be seen of the rules of LANGUAGE.md. It is run from the project's own folder. */
public final class FaceTest {
    private static final String[] FACE = {
        "int ring(int)", "boolean stall(int,int,int)", "int sheet(int,int,int,int)", "boolean shut(int,boolean)",
        "int set(int,int)", "int steps(int,int)", "int sign(int)", "boolean end(int)", "int rule()",
        "int engine(int,int,int,boolean)", "boolean light(int)", "int drop(int)", "boolean dead(int,boolean)",
        "int of(int,int)", "int takes(int,int)", "int smoke()", "int pass(int)", "int move(int,int)",
        "int drag(int,int,int)", "int free(int)", "int order(int)", "int clear(int)", "int under()",
        "int comes(int)", "int leaves(int)", "int nobody()", "int put()", "int room(int)",
        "int coal(int,int,int)", "boolean wants(int,int,int)", "int coaled(int)", "int fill(int)", "int burns(int)",
        "int train(int,int,int)", "boolean plan(int,int)", "int fits(int,int)", "int most()", "int fails(int)",
        "int soonest(int)", "int wrong()", "int exchange()", "int crews(int,int)", "int fires(int,int)",
        "int men(int)", "int frost(int)", "int morning()", "int why(int)", "boolean keep(int)",
        "boolean again(int)", "int count(int)", "int inside(int)", "int row(int)",
    };

    public static void main(String[] args) throws IOException {
        face();
        insideClasses();
        source();
        Check.end();
    }

    private static String told(Method m) {
        StringBuilder text = new StringBuilder(m.getReturnType().getName()).append(' ').append(m.getName()).append('(');
        for (Class<?> c : m.getParameterTypes()) {
            text.append(text.charAt(text.length() - 1) == '(' ? "" : ",").append(c.getName());
        }
        return text.append(')').toString();
    }

    private static void face() {
        Class<?> c = EnginesAsleep.class;
        Check.due("public and final", Modifier.isPublic(c.getModifiers()) && Modifier.isFinal(c.getModifiers()), true);
        Set<String> due = new TreeSet<>(List.of(FACE));
        Set<String> got = new TreeSet<>();
        for (Method m : c.getDeclaredMethods()) {
            if (!Modifier.isPrivate(m.getModifiers()) && !m.isSynthetic()) {
                got.add(told(m));
                Check.due(told(m) + " is public and of the object", m.getModifiers(), Modifier.PUBLIC);
            }
        }
        Check.due("methods " + got, got.equals(due), true);
        for (Field f : c.getDeclaredFields()) {
            Check.due("static is final: " + f, !Modifier.isStatic(f.getModifiers()) || Modifier.isFinal(f.getModifiers()), true);
            if (!Modifier.isPrivate(f.getModifiers()) && !f.isSynthetic()) {
                Check.due("field " + f.getName(), f.getName().equals("NONE"), true);
                Check.due("NONE's kind", f.getModifiers(), Modifier.PUBLIC | Modifier.STATIC | Modifier.FINAL);
            }
        }
        Constructor<?>[] made = c.getDeclaredConstructors();
        Check.due("one constructor", made.length, 1);
        Check.due("it is public, without parameters", made[0].getModifiers() == Modifier.PUBLIC && made[0].getParameterCount() == 0, true);
    }

    private static void insideClasses() {
        Set<String> names = new HashSet<>();
        for (String f : FACE) {
            names.add(f.substring(f.indexOf(' ') + 1, f.indexOf('(')));
        }
        Class<?>[] inside = EnginesAsleep.class.getDeclaredClasses();
        Check.due("classes in the file: " + inside.length, inside.length <= 12, true);
        for (Class<?> c : inside) {
            int m = c.getModifiers();
            Check.due(c + " is static", Modifier.isStatic(m), true);
            Check.due(c + " is not public", Modifier.isPublic(m) || Modifier.isProtected(m), false);
            int fields = 0;
            for (Field f : c.getDeclaredFields()) {
                fields += Modifier.isStatic(f.getModifiers()) ? 0 : 1;
                Check.due("static is final: " + f, !Modifier.isStatic(f.getModifiers()) || Modifier.isFinal(f.getModifiers()), true);
            }
            Check.due(c + " has " + fields + " fields", fields <= 20, true);
            for (Method method : c.getDeclaredMethods()) {
                Check.due("the name of " + method, names.contains(method.getName()), false);
                Check.due("parameters of " + method, method.getParameterCount() <= 7, true);
            }
        }
    }

    private static void source() throws IOException {
        String text = Files.readString(Path.of("src/main/java/EnginesAsleep.java"));
        for (int i = 0; i < text.length(); i++) {
            if (text.charAt(i) > 126) {
                Check.fault("a sign beyond 126 at " + i);
            }
        }
        String code = text.replaceAll("(?s)/\\*.*?\\*/", "").replaceAll("//[^\n]*", "").replaceAll("\"[^\"]*\"", "\"\"");
        String[] barred = {
            "->", "::", "\\bsynchronized\\b", "\\bassert\\b", "\\bfinally\\b", "\\btry\\b", "\\bcatch\\b", "\\bpackage\\b",
            "Exact\\b", "\\bObject\\b", "\\bextends\\b", "\\bgetMessage\\b", "\\bThread\\b", "\\bRandom\\b",
            "\\bnanoTime\\b", "\\bcurrentTimeMillis\\b", "\\bprintln\\b", "\\bdouble\\b", "\\bfloat\\b", "\\bvar\\b",
            "\"\\s*\\+", "\\+\\s*\"", "\\]\\s*\\[\\s*\\]", "while \\(true\\)", "for \\(;", "\\bequals\\(", "\\bhashCode\\(",
            "\\btoString\\(", "\\blong\\[\\]\\[", "\\bInteger\\s", "\\bLong\\b", "\\bList\\b", "\\bthis\\b", "\\(\\w+\\[\\]\\)",
            "static\\s*\\{", "\\bprotected\\b", "\\bInteger\\.M", "\\bLong\\.M", "\\bString\\.format\\b", "\\binstanceof\\b",
        };
        for (String b : barred) {
            Check.due("the source has " + b, Pattern.compile(b).matcher(code).find(), false);
        }
        allMatch(code, "import ([\\w.]+);", List.of("java.util.Arrays", "java.util.NoSuchElementException"));
        allMatch(code, "throw new (\\w+)\\(", List.of("NoSuchElementException"));
        allMatch(code, "\\bSystem\\.(\\w+)", List.of("arraycopy"));
        allMatch(code, "\\bArrays\\.(\\w+)", List.of("fill"));
        allMatch(code, "\\bMath\\.(\\w+)", List.of("min", "max"));
        allMatch(code, "\\bInteger\\.(\\w+)", List.of("bitCount", "numberOfTrailingZeros"));
        methodLengths(text);
        madeOnce(code);
        Check.due("of() throws twice, row() once", times(code, "\\bthrow new\\b"), 3);
    }

    private static int times(String code, String pattern) {
        Matcher m = Pattern.compile(pattern).matcher(code);
        int many = 0;
        while (m.find()) {
            many++;
        }
        return many;
    }

    /** What is made is made with an object: in a field's first value or in a constructor. Calls make nothing but what they throw. */
    private static void madeOnce(String code) {
        Pattern method = Pattern.compile("^ +(?:public |private |static )*(?:\\w+(?:\\[\\])? )?(\\w+)\\([^;]*\\{$");
        String within = "";
        for (String line : code.split("\n")) {
            Matcher m = method.matcher(line);
            if (m.find() && !line.contains("} else") && !line.contains(" if (") && !line.contains(" for (") && !line.contains(" while (") && !line.contains(" switch (")) {
                within = m.group(1);
            }
            if (line.contains("class ")) {
                within = "";
            }
            if (Pattern.compile("\\bnew\\b").matcher(line).find() && !line.contains("throw new")) {
                boolean field = line.matches(" +private (final |static )*[\\w\\[\\]]+ \\w+ = new .*;");
                boolean inConstructor = !within.isEmpty() && Character.isUpperCase(within.charAt(0));
                Check.due("made in " + within + ":" + line, field || inConstructor, true);
            }
        }
    }

    private static void allMatch(String code, String pattern, List<String> allowed) {
        Matcher m = Pattern.compile(pattern).matcher(code);
        while (m.find()) {
            Check.due(m.group(), allowed.contains(m.group(1)), true);
        }
    }

    /** A method begins at its { and ends at a } that stands as far in as it does. */
    private static void methodLengths(String text) {
        List<String> lines = new ArrayList<>(List.of(text.split("\n")));
        Pattern begin = Pattern.compile("^( {4}| {8})(?!.*\\bclass\\b)[\\w\\[\\]].*\\).*\\{$");
        for (int i = 0; i < lines.size(); i++) {
            Matcher m = begin.matcher(lines.get(i));
            if (m.find()) {
                int end = i;
                while (end < lines.size() && !lines.get(end).equals(m.group(1) + "}")) {
                    end++;
                }
                Check.due("lines of" + lines.get(i) + ": " + (end - i + 1), end - i + 1 <= 60, true);
            }
        }
    }
}
