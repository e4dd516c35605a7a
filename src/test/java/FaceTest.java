import java.io.IOException;
import java.lang.reflect.Constructor;
import java.lang.reflect.Field;
import java.lang.reflect.Member;
import java.lang.reflect.Method;
import java.lang.reflect.Modifier;
import java.nio.file.Files;
import java.nio.file.Path;
import java.util.Arrays;
import java.util.Set;
import java.util.TreeSet;
import java.util.regex.Matcher;
import java.util.regex.Pattern;

/** The public face of the document, and those rules of LANGUAGE.md that can be read off the class. */
public final class FaceTest {
    private static final Check C = new Check("Face");
    private static final String[] FACE = {
        "int row(int, int)", "int lay(int, int, int)", "int at(int, int)", "int tear(int)",
        "int copy(int, int, int, int, int)", "int mean(int)", "int text(int, int)", "int put(int, int, int)",
        "int fault(int)", "int town(int)", "int pipe(int, int)", "int mark(int, int)", "int hour()", "int pump(int)",
        "int cut(int)", "int leak(int)", "int stroke(int)", "int undo(int)", "int keep(int)", "int on(int)",
        "int wants(int, int, int)", "int air(int)", "int says(int, int)", "int first(int)", "int hush(int)",
        "int least(int)", "int hard(int, int)", "int leaks(int)", "int listen(int)", "int strokes(int)",
        "int kinds(int, int)", "int sets(int)", "int sure(int)", "int duel(int)", "int odds(int, int)", "int mid(int)",
        "int lots(int, int)", "int asked()", "long upper()", "long lower()", "int count(int)", "int finding()",
        "int findings(int)", "long digest()"};

    public static void main(String[] args) throws IOException {
        constants();
        methods();
        members(BlowerBreath.class);
        words();
        C.end();
    }

    private static void constants() {
        C.due("BAD", BlowerBreath.BAD, -1);
        C.due("FULL", BlowerBreath.FULL, -2);
        C.due("FINDING", BlowerBreath.FINDING, -3);
        C.due("STATE", BlowerBreath.STATE, -4);
        C.due("SPENT", BlowerBreath.SPENT, -6);
        C.due("NONE", BlowerBreath.NONE, -9);
        C.due("the class is public and final", BlowerBreath.class.getModifiers(), Modifier.PUBLIC | Modifier.FINAL);
    }

    private static String told(Method m) {
        StringBuilder b = new StringBuilder(m.getReturnType().getName()).append(' ').append(m.getName()).append('(');
        Class<?>[] types = m.getParameterTypes();
        for (int k = 0; k < types.length; k++) {
            b.append(k == 0 ? "" : ", ").append(types[k].getName());
        }
        return b.append(')').toString();
    }

    private static void methods() {
        Set<String> open = new TreeSet<>();
        for (Method m : BlowerBreath.class.getDeclaredMethods()) {
            if (!Modifier.isPrivate(m.getModifiers())) {
                C.due(m.getName() + " is public, not static", m.getModifiers(), Modifier.PUBLIC);
                open.add(told(m));
            }
        }
        C.due("the face is " + open, open.equals(new TreeSet<>(Arrays.asList(FACE))));
        Constructor<?>[] made = BlowerBreath.class.getDeclaredConstructors();
        C.due("one constructor", made.length, 1);
        C.due("it is public", made[0].getModifiers(), Modifier.PUBLIC);
        C.due("it takes nothing", made[0].getParameterCount(), 0);
    }

    private static void members(Class<?> type) {
        Set<String> names = new TreeSet<>();
        for (String call : FACE) {
            names.add(call.substring(call.indexOf(' ') + 1, call.indexOf('(')));
        }
        int fields = 0;
        for (Field f : type.getDeclaredFields()) {
            boolean fixed = Modifier.isStatic(f.getModifiers());
            C.due(f + ": static only if final", !fixed || Modifier.isFinal(f.getModifiers()));
            C.due(f + ": private", type != BlowerBreath.class || fixed || Modifier.isPrivate(f.getModifiers()));
            fields += fixed ? 0 : 1;
        }
        C.due(type + ": some twenty fields", fields <= 20);
        for (Method m : type.getDeclaredMethods()) {
            C.due(m + ": seven parameters at most", m.getParameterCount() <= 7);
            boolean own = type != BlowerBreath.class || isPrivate(m);
            C.due(m + ": no name of the face", !own || !names.contains(m.getName()));
        }
        C.due(type + ": some twelve classes", type.getDeclaredClasses().length <= 12);
        for (Class<?> inside : type.getDeclaredClasses()) {
            C.due(inside + ": static", Modifier.isStatic(inside.getModifiers()));
            C.due(inside + ": not public", !Modifier.isPublic(inside.getModifiers()));
            members(inside);
        }
    }

    private static boolean isPrivate(Member m) {
        return Modifier.isPrivate(m.getModifiers());
    }

    private static void words() throws IOException {
        String path = System.getProperty("source", "src/main/java/BlowerBreath.java");
        String source = Files.readString(Path.of(path)).replaceAll("(?s)/\\*.*?\\*/", " ").replaceAll("//[^\n]*", " ");
        String[] never = {
            "throw", "throws", "try", "catch", "finally", "synchronized", "assert", "package", "protected", "Exact",
            "->", "::", "Random", "System\\.(?!arraycopy)", "Thread", "String\\.", "\\bObject\\b", "volatile"};
        for (String word : never) {
            String whole = word.matches("[a-z]+") ? "\\b" + word + "\\b" : word;
            Matcher m = Pattern.compile(whole).matcher(source);
            C.due("no " + word + " in the class", !m.find());
        }
        Matcher imports = Pattern.compile("import ([^;]+);").matcher(source);
        while (imports.find()) {
            C.due("import " + imports.group(1), Set.of("java.util.Arrays").contains(imports.group(1)));
        }
        C.due("one method has some sixty lines at most", longestMethod(source) <= 60);
    }

    private static int longestMethod(String source) {
        int longest = 0;
        int since = -1;
        int depth = 0;
        int base = 1;
        for (String line : source.split("\n")) {
            if (line.matches("    private static final class .*")) {
                base = 2;
            }
            int before = depth;
            for (char c : line.toCharArray()) {
                depth += c == '{' ? 1 : c == '}' ? -1 : 0;
            }
            if (before == base && depth > base) {
                since = 0;
            }
            since += since >= 0 ? 1 : 0;
            if (depth == base && since > 0) {
                longest = Math.max(longest, since);
                since = -1;
            }
        }
        return longest;
    }
}
