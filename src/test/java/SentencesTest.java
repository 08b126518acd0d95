import java.io.IOException;
import java.lang.reflect.InvocationTargetException;
import java.lang.reflect.Method;
import java.nio.file.Files;
import java.nio.file.Path;
import java.util.ArrayList;
import java.util.Arrays;
import java.util.Comparator;
import java.util.List;

/**
 * Runs a test for each sentence of the document that names a boundary case, tells the sentence if it
 * is broken, and looks whether a sentence was left out. Run from the project's folder.
 */
public final class SentencesTest {
    private static final Path DOCUMENT = Path.of("../shared/DOC.md");
    private static final Class<?>[] EDGES = {EdgesOfTelling.class, EdgesOfTexts.class, EdgesOfLaws.class,
        EdgesOfSteps.class, EdgesOfWhatIsSo.class, EdgesOfTheBook.class, EdgesOfTheLog.class, EdgesAhead.class,
        EdgesOfTheImage.class};

    public static void main(String[] args) throws IOException, IllegalAccessException {
        List<Says> said = new ArrayList<>();
        for (Class<?> edges : EDGES) {
            Method[] methods = edges.getDeclaredMethods();
            Arrays.sort(methods, Comparator.comparing(Method::getName));
            for (Method m : methods) {
                Says says = m.getAnnotation(Says.class);
                if (says != null) {
                    said.add(says);
                    run(m, says);
                }
            }
        }
        System.out.println(said.size() + " tests of sentences");
        if (Files.exists(DOCUMENT)) {
            lookAtTheDocument(Files.readString(DOCUMENT), said);
        }
        Due.finish();
    }

    private static void run(Method test, Says says) throws IllegalAccessException {
        int asked = Due.asked();
        int wrong = Due.wrong();
        test.setAccessible(true);
        try {
            test.invoke(null);
        } catch (InvocationTargetException e) {
            Due.same(test.getName(), "threw " + e.getCause(), "no throw");
        }
        Due.due(test.getName() + " asks something", Due.asked() > asked, true);
        if (Due.wrong() > wrong) {
            System.out.println("  broken: promise " + says.promise() + ", \"" + says.words() + "\" (" + test.getName() + ")");
        }
    }

    /** Each quote is the document's, and each sentence of it is quoted. */
    private static void lookAtTheDocument(String document, List<Says> said) {
        String plain = document.replace("```text", "").replace("```", "").replaceAll("\\s+", " ");
        int terms = plain.indexOf("## Terms");
        int end = plain.indexOf("## Not promised");
        boolean[] quoted = new boolean[plain.length()];
        for (Says says : said) {
            int from = plain.indexOf("## Promise " + says.promise() + ":");
            int to = plain.indexOf("## ", from + 3);
            boolean found = quote(plain, from, to, says.words(), quoted)
                    | quote(plain, terms, plain.indexOf("## Promise 1:"), says.words(), quoted);
            Due.due("promise " + says.promise() + " or Terms have the words \"" + says.words() + "\"", found, true);
        }
        int start = terms;
        for (int at = terms; at < end; at++) {
            if (isEnd(plain, at) || at == end - 1) {
                lookForQuote(plain, start, at, quoted);
                start = at + 1;
            }
        }
    }

    private static boolean quote(String plain, int from, int to, String words, boolean[] quoted) {
        boolean found = false;
        for (int at = plain.indexOf(words, from); at >= 0 && at < to; at = plain.indexOf(words, at + 1)) {
            Arrays.fill(quoted, at, at + words.length(), true);
            found = true;
        }
        return found;
    }

    /** A full stop or semicolon behind words (not one of "0 .. 9", nor the sign of a CLAUSE), ahead of a blank. */
    private static boolean isEnd(String plain, int at) {
        char sign = plain.charAt(at);
        return (sign == '.' || sign == ';') && plain.charAt(at - 1) != ' ' && plain.charAt(at - 1) != '.'
                && plain.charAt(at + 1) == ' ';
    }

    private static void lookForQuote(String plain, int start, int end, boolean[] quoted) {
        String sentence = plain.substring(start, end).trim();
        if (!sentence.matches(".*[a-z]{2}.*") || sentence.matches("(## .*)?[=]{4} [IV]+")) {
            return;
        }
        boolean any = false;
        for (int i = start; i < end; i++) {
            any |= quoted[i];
        }
        Due.due("a test quotes \"" + sentence + "\"", any, true);
    }
}
