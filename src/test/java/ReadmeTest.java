import java.io.IOException;
import java.lang.reflect.Method;
import java.lang.reflect.Modifier;
import java.nio.file.Files;
import java.nio.file.Path;
import java.util.Set;
import java.util.TreeSet;
import java.util.regex.Matcher;
import java.util.regex.Pattern;

/** Holds README.md to the class: its example answers as it says there, and its table names every call once. */
public final class ReadmeTest {
    private static final Check C = new Check("Readme");
    private static final Pattern TOLD = Pattern.compile("String told = \"([^\"]*)\";");
    private static final Pattern CALL = Pattern.compile("^x\\.(\\w+)\\(([^)]*(?:\\(\\))?)\\); +// (-?\\d+)\\b.*$");
    private static final Pattern PUT = Pattern.compile("^ +x\\.put\\(0, i, told\\.charAt\\(i\\)\\);$");

    public static void main(String[] args) throws IOException {
        String readme = Files.readString(Path.of(System.getProperty("readme", "README.md")));
        example(part(readme, "```java\nBlowerBreath x", "```\n"));
        table(part(readme, "| calls |", "\n\n"));
        C.end();
    }

    private static String part(String readme, String from, String to) {
        int start = readme.indexOf(from);
        int end = start < 0 ? -1 : readme.indexOf(to, start + from.length());
        C.due("README.md has a part from " + from, end >= 0);
        return end < 0 ? "" : readme.substring(start, end);
    }

    private static void example(String code) {
        Matcher told = TOLD.matcher(code);
        C.due("the example tells a town", told.find());
        String signs = told.group(1);
        Run run = new Run(C);
        for (String line : code.split("\n")) {
            Matcher call = CALL.matcher(line);
            if (call.matches()) {
                String given = call.group(2).replace("told.length()", Integer.toString(signs.length()));
                run.gives(Long.parseLong(call.group(3)), call.group(1), numbers(given));
            } else if (PUT.matcher(line).matches()) {
                putAll(run, signs);
            } else {
                C.due("the example's line is understood: " + line, !line.contains("x."));
            }
        }
    }

    private static int[] numbers(String given) {
        if (given.isBlank()) {
            return new int[0];
        }
        String[] parts = given.split(", *");
        int[] numbers = new int[parts.length];
        for (int k = 0; k < parts.length; k++) {
            numbers[k] = Integer.parseInt(parts[k]);
        }
        return numbers;
    }

    private static void putAll(Run run, String signs) {
        for (int i = 0; i < signs.length(); i++) {
            run.gives(1000 + ' ', "put", 0, i, signs.charAt(i));
        }
    }

    private static void table(String rows) {
        Set<String> face = new TreeSet<>();
        for (Method m : BlowerBreath.class.getDeclaredMethods()) {
            if (Modifier.isPublic(m.getModifiers())) {
                face.add(m.getName());
            }
        }
        Matcher name = Pattern.compile("`(\\w+)`").matcher(rows);
        while (name.find()) {
            C.due("the table's " + name.group(1) + " is a call, named once", face.remove(name.group(1)));
        }
        C.due("the table lacks " + face, face.isEmpty());
    }
}
