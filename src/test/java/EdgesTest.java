import java.io.IOException;
import java.lang.reflect.InvocationTargetException;
import java.lang.reflect.Method;
import java.nio.file.Path;
import java.util.ArrayList;
import java.util.Arrays;
import java.util.Comparator;
import java.util.List;

/** Runs a test for each sentence of the document, and holds the document's own words against what the tests quote. */
public final class EdgesTest {
    private static final Check C = new Check("Edges");
    private final Document document;
    private final List<List<String>> quotes = new ArrayList<>();

    private EdgesTest(Document document) {
        this.document = document;
        for (int k = 0; k <= Document.PROMISES; k++) {
            quotes.add(new ArrayList<>());
        }
    }

    public static void main(String[] args) throws IOException, ReflectiveOperationException {
        EdgesTest all = new EdgesTest(new Document(Path.of(System.getProperty("document", "../shared/DOC.md"))));
        Edges[] parts = {
            new EdgesOfTerms(), new EdgesOfTexts(), new EdgesOfHours(), new EdgesOfRows(), new EdgesOfTowns(),
            new EdgesOfDeeds(), new EdgesOfAhead(), new EdgesOfHeard(), new EdgesOfChances(), new EdgesOfTold()};
        for (Edges part : parts) {
            all.runs(part);
        }
        all.nothingIsLeftOut();
        C.end();
    }

    private void runs(Edges part) throws ReflectiveOperationException {
        Method[] methods = part.getClass().getDeclaredMethods();
        Arrays.sort(methods, Comparator.comparing(Method::getName));
        for (Method m : methods) {
            Says says = m.getAnnotation(Says.class);
            if (says != null) {
                runs(part, m, says);
            }
        }
    }

    private void runs(Edges part, Method m, Says says) throws ReflectiveOperationException {
        String name = part.getClass().getName() + "." + m.getName() + " (promise " + says.promise() + ": \""
            + says.words() + "\")";
        Check check = new Check(name);
        part.begin(check);
        try {
            m.invoke(part);
        } catch (InvocationTargetException e) {
            check.due(name + " ended by " + e.getCause(), false);
        }
        C.due(name + " asks for something", check.right() + check.wrong() > 0);
        C.due(name + ": wrong answers", check.wrong(), 0);
        C.due(name + " quotes the document", document.has(says.promise(), says.words()));
        C.due(name + " is named by its promise", m.getName().startsWith(String.format("p%02d_", says.promise())));
        if (says.promise() >= 0 && says.promise() <= Document.PROMISES) {
            quotes.get(says.promise()).add(says.words());
        }
    }

    private void nothingIsLeftOut() {
        for (int k = 0; k <= Document.PROMISES; k++) {
            for (String words : document.unquoted(k, quotes.get(k))) {
                C.due("promise " + k + ", a test of \"" + words + "\"", false);
            }
            C.due("promise " + k + " has a test", !quotes.get(k).isEmpty());
        }
    }
}
