import java.io.IOException;
import java.lang.reflect.Field;
import java.lang.reflect.Method;
import java.lang.reflect.Modifier;
import java.nio.file.Files;
import java.nio.file.Path;
import java.util.ArrayList;
import java.util.Arrays;
import java.util.HashSet;
import java.util.List;
import java.util.Set;
import java.util.TreeSet;
import java.util.regex.Matcher;
import java.util.regex.Pattern;

/** What can be looked at of the document's face and of LANGUAGE.md. Run from the project's folder. */
public final class RulesTest {
    private static final String SOURCE = "src/main/java/LastWordAt.java";
    private static final String[] FACE = {
        "int guest(int,int,int)", "int feed(int,int,int,int,int)", "int end(int)", "int text()", "int fault(int)",
        "boolean by(int)", "int say(int,int)", "boolean ask()", "int pass(int)", "boolean send(int)", "int dinner()",
        "int played(int)", "int years(int,int)", "int undo()", "int of(int,int)", "int holds(boolean)",
        "int log(int,int)", "int book(int,int)", "long inherits(int,int,boolean)", "long open(int,boolean)",
        "long thatNight(int,int,int,boolean)", "int tally(int,boolean)", "int longest(boolean)", "int which(int)",
        "int whispered(int,int)", "int twoWhispered(int,int,int,int)", "int ifAsked(int)", "int silence()",
        "int byRank(int)", "int told(int,int)", "int meanDies(boolean)", "int held(int)", "int stays(int)",
        "int round(int,int)", "int provoked(int,int)", "int unsaid(int)", "int nextToast()",
        "boolean odds(int,int,int)", "boolean falls(int,int)", "long when(int,int,int,int)",
        "long words(int,int,int,int,int)", "int fewest(int,int,int,int)", "long game(int,int)",
        "long cough(int,int,int,boolean)", "int image()", "int back()", "int about(int)"};

    public static void main(String[] args) throws IOException {
        face();
        classes();
        source();
        Due.finish();
    }

    private static void face() {
        Set<String> want = new TreeSet<>(Arrays.asList(FACE));
        Set<String> got = new TreeSet<>();
        for (Method m : LastWordAt.class.getDeclaredMethods()) {
            if (!Modifier.isPrivate(m.getModifiers()) && !m.isSynthetic()) {
                Due.due("public " + m.getName(), Modifier.isPublic(m.getModifiers()) && !Modifier.isStatic(m.getModifiers()), true);
                StringBuilder b = new StringBuilder(m.getReturnType() + " " + m.getName() + "(");
                for (Class<?> type : m.getParameterTypes()) {
                    b.append(b.charAt(b.length() - 1) == '(' ? "" : ",").append(type);
                }
                got.add(b + ")");
            }
        }
        Due.due("the face: " + got, got.equals(want), true);
        for (Field f : LastWordAt.class.getDeclaredFields()) {
            boolean isPublic = f.getName().equals("NONE");
            Due.due("field " + f.getName(), isPublic ? Modifier.isPublic(f.getModifiers())
                    : Modifier.isPrivate(f.getModifiers()), true);
        }
        Due.due("NONE", LastWordAt.NONE, -1);
        Due.due("constructors", LastWordAt.class.getDeclaredConstructors().length, 1);
        Due.due("final", Modifier.isFinal(LastWordAt.class.getModifiers()), true);
    }

    private static void classes() {
        List<Class<?>> all = new ArrayList<>(List.of(LastWordAt.class));
        all.addAll(List.of(LastWordAt.class.getDeclaredClasses()));
        Due.due("at most twelve classes", all.size() <= 12, true);
        Set<String> face = new HashSet<>();
        for (String one : FACE) {
            face.add(one.replaceAll(".* (\\w+)\\(.*", "$1"));
        }
        for (Class<?> c : all) {
            int fields = 0;
            for (Field f : c.getDeclaredFields()) {
                boolean isStatic = Modifier.isStatic(f.getModifiers());
                fields += isStatic ? 0 : 1;
                Due.due("static means final: " + f, !isStatic || Modifier.isFinal(f.getModifiers()), true);
            }
            Due.due("at most twenty fields: " + c, fields <= 20, true);
            for (Method m : c.getDeclaredMethods()) {
                Due.due("at most seven parameters: " + m, m.getParameterCount() <= 7, true);
                boolean isFace = c == LastWordAt.class && Modifier.isPublic(m.getModifiers());
                Due.due("its own name: " + m, isFace || !face.contains(m.getName()), true);
            }
        }
    }

    private static void source() throws IOException {
        List<String> lines = Files.readAllLines(Path.of(SOURCE));
        String code = String.join("\n", lines).replaceAll("(?s)/\\*.*?\\*/", "").replaceAll("//[^\n]*", "")
                .replaceAll("\"[^\"\n]*\"", "\"\"");
        for (String word : new String[] {"throw", "throws", "try", "catch", "synchronized", "assert", "package", "instanceof",
            "double", "float", "System\\.(?!arraycopy)\\w+", "\\w+Exact", "while", "yield"}) {
            Due.due("no " + word, Pattern.compile("\\b" + word + "\\b").matcher(code).find(), false);
        }
        Due.due("no lambda", code.contains("->"), false);
        Due.due("no method reference", code.contains("::"), false);
        Due.due("one import", code.split("\nimport ", -1).length - 1 + (code.startsWith("import ") ? 1 : 0), 1);
        Matcher made = Pattern.compile("(?m)^.*\\bnew\\b.*$").matcher(code);
        while (made.find()) {
            boolean once = made.group().matches("    (    )?(private )?final .*|            scripts\\[i\\] = new Script\\(\\);");
            Due.due("made once, with the object: " + made.group(), once, true);
        }
        int start = 0;
        for (int i = 0; i < lines.size(); i++) {
            String line = lines.get(i);
            Due.due("plain signs in line " + (i + 1), line.chars().allMatch(c -> c >= 32 && c < 127), true);
            if (line.matches("    (    )?(public|private|static|int|long|boolean|void|Reader|Script|Evening|Chances).*\\) \\{")) {
                start = i;
            }
            if (line.matches("    (    )?\\}")) {
                Due.due("at most sixty lines behind " + (start + 1), start > 0 && i - start > 60 && !isClassEnd(lines, i), false);
                start = 0;
            }
        }
    }

    private static boolean isClassEnd(List<String> lines, int i) {
        return lines.get(i).equals("    }") && i > 0 && lines.get(i - 1).equals("        }");
    }
}
