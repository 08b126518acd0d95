import java.io.IOException;
import java.lang.reflect.InvocationTargetException;
import java.lang.reflect.Method;
import java.lang.reflect.Modifier;
import java.nio.file.Files;
import java.nio.file.Path;
import java.util.regex.Matcher;
import java.util.regex.Pattern;

/** Runs the calls that README.md shows: each must answer as it says there. Run from the project's folder. */
public final class ReadmeTest {
    private static final Pattern BLOCK = Pattern.compile("(?s)```java\n(.*?)```");
    private static final Pattern CALL = Pattern.compile("table\\.(\\w+)\\((.*?)\\); +// (-?\\d+|true|false): .+");
    private static final String MADE = "LastWordAt table = new LastWordAt();";

    public static void main(String[] args) throws IOException, ReflectiveOperationException {
        String page = Files.readString(Path.of("README.md"));
        calls(page);
        face(page);
        Due.finish();
    }

    private static void calls(String page) throws ReflectiveOperationException {
        LastWordAt table = new LastWordAt();
        int blocks = 0;
        Matcher block = BLOCK.matcher(page);
        while (block.find()) {
            blocks++;
            for (String line : block.group(1).split("\n")) {
                if (!line.equals(MADE)) {
                    call(table, line);
                }
            }
        }
        Due.due("README.md shows calls", blocks, 2);
    }

    private static void call(LastWordAt table, String line) throws ReflectiveOperationException {
        Matcher call = CALL.matcher(line);
        boolean isCall = call.matches();
        Due.due("a call with its answer: " + line, isCall, true);
        if (isCall) {
            Due.same("README.md, " + line, answer(table, call.group(1), call.group(2)), call.group(3));
        }
    }

    private static String answer(LastWordAt table, String name, String told) throws ReflectiveOperationException {
        String[] words = told.isEmpty() ? new String[0] : told.split(", ");
        for (Method m : LastWordAt.class.getMethods()) {
            if (m.getName().equals(name) && m.getParameterCount() == words.length) {
                Object[] all = new Object[words.length];
                for (int i = 0; i < words.length; i++) {
                    all[i] = value(words[i]);
                }
                return invoke(table, m, all);
            }
        }
        return "no such call";
    }

    private static String invoke(LastWordAt table, Method m, Object[] all) throws IllegalAccessException {
        try {
            return String.valueOf(m.invoke(table, all));
        } catch (InvocationTargetException e) {
            return "threw " + e.getCause();
        }
    }

    private static Object value(String word) {
        if (word.equals("true") || word.equals("false")) {
            return Boolean.valueOf(word);
        }
        return word.equals("LastWordAt.NONE") ? Integer.valueOf(LastWordAt.NONE) : Integer.decode(word);
    }

    private static void face(String page) {
        for (Method m : LastWordAt.class.getDeclaredMethods()) {
            if (Modifier.isPublic(m.getModifiers())) {
                Due.due("README.md names " + m.getName(), page.contains("`" + m.getName() + "`"), true);
            }
        }
    }
}
