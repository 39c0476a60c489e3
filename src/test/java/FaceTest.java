import java.lang.reflect.Constructor;
import java.lang.reflect.Field;
import java.lang.reflect.Member;
import java.lang.reflect.Method;
import java.lang.reflect.Modifier;
import java.nio.file.Files;
import java.nio.file.Path;
import java.util.HashSet;
import java.util.List;
import java.util.Set;
import java.util.TreeSet;
import java.util.regex.Matcher;
import java.util.regex.Pattern;

/** The document's face, and the rules of LANGUAGE.md that can be seen from the class and its text. */
final class FaceTest {
    private static final String[] FACE = {
        "int feed(int,int,int,int,int)", "int end(int)", "int floor(int)", "int fault(int)", "int step(int,int,int)",
        "int out(int,int,boolean)", "int odd(int)", "int cycle(int,int)", "long order(int)", "int apart(int,int)",
        "int least(int,int,int)", "int lay(int,int)", "int roll(int,int,int)", "int chain(int,int,int)", "int program()",
        "int let(int,int)", "int value(int)", "int run(int,boolean)", "int trouble(int)", "int table(int,int)",
        "int part(int,int,int)", "int ball(int,int,int,boolean)", "int cell(int,int)", "int beat(int)", "int back(int)",
        "int round()", "int trail(int,int)", "int move(int)", "int watch(int)", "int see(int,int,int)",
        "int right(int,int,int)", "long fit(int)", "int look()", "int count(int)"};
    private static final Set<String> NAMES = new HashSet<>();

    public static void main(String[] args) throws Exception {
        face();
        Class<?>[] inside = MarbleFloor.class.getDeclaredClasses();
        Check.due("classes are twelve at most", inside.length + 1 <= 12 ? 1 : 0, 1);
        for (Class<?> c : inside) {
            inside(c);
        }
        fields(MarbleFloor.class);
        text(Files.readString(Path.of("src/main/java/MarbleFloor.java")));
        Check.finish("FaceTest");
    }

    private static void face() {
        Set<String> got = new TreeSet<>();
        for (Method m : MarbleFloor.class.getDeclaredMethods()) {
            if (!Modifier.isPrivate(m.getModifiers())) {
                String all = m.toGenericString();
                got.add(all.replace("public ", "").replace("MarbleFloor.", ""));
                NAMES.add(m.getName());
                Check.due(m.getName() + " is public", Modifier.isPublic(m.getModifiers()) ? 1 : 0, 1);
            }
        }
        Check.dueText("the face", got.toString(), new TreeSet<>(List.of(FACE)).toString());
        Set<String> constants = new TreeSet<>();
        for (Field f : MarbleFloor.class.getDeclaredFields()) {
            if (!Modifier.isPrivate(f.getModifiers())) {
                constants.add(f.toGenericString().replace("MarbleFloor.", ""));
            }
        }
        String all = "[public static final int FULL, public static final int NONE, public static final int RANGE, public static final int STATE]";
        Check.dueText("the constants", constants.toString(), all);
        Constructor<?>[] made = MarbleFloor.class.getDeclaredConstructors();
        Check.due("one constructor", made.length, 1);
        Check.due("it is public", made[0].getModifiers(), Modifier.PUBLIC);
        Check.due("public and final", MarbleFloor.class.getModifiers(), Modifier.PUBLIC | Modifier.FINAL);
    }

    private static void inside(Class<?> c) {
        Check.due(c + " is static", Modifier.isStatic(c.getModifiers()) ? 1 : 0, 1);
        Check.due(c + " is hidden", c.getModifiers() & (Modifier.PUBLIC | Modifier.PROTECTED), 0);
        fields(c);
        for (Method m : c.getDeclaredMethods()) {
            Check.due(c + " has a name of the face: " + m.getName(), NAMES.contains(m.getName()) ? 1 : 0, 0);
            Check.due(m + " has seven parameters at most", m.getParameterCount() <= 7 ? 1 : 0, 1);
        }
    }

    private static void fields(Class<?> c) {
        int own = 0;
        for (Field f : c.getDeclaredFields()) {
            if (isStatic(f)) {
                boolean fine = Modifier.isFinal(f.getModifiers())
                    && List.of("int", "long", "boolean", "char", "int[]", "long[]").contains(f.getType().getSimpleName());
                Check.due(f + " is a constant", fine ? 1 : 0, 1);
            } else {
                own++;
            }
        }
        Check.due(c + " has twenty fields at most", own <= 20 ? 1 : 0, 1);
    }

    private static boolean isStatic(Member m) {
        return Modifier.isStatic(m.getModifiers());
    }

    private static void text(String source) {
        String code = source.replaceAll("(?s)/\\*.*?\\*/", "").replaceAll("//.*", "");
        String[] barred = {"throw", "throws", "try", "catch", "finally", "synchronized", "assert", "protected", "package",
            "Object", "hashCode", "toString", "System\\.(?!arraycopy)", "Random", "Thread", "new \\w+\\(.*\\) \\{", "->", "::", "Exact\\(",
            "static \\{", "do \\{", "var "};
        for (String b : barred) {
            boolean wordy = Character.isLetter(b.charAt(0)) && Character.isLetter(b.charAt(b.length() - 1));
            Matcher m = Pattern.compile(wordy ? "\\b" + b + "\\b" : b).matcher(code);
            Check.dueText("what is barred", m.find() ? m.group() : "", "");
        }
        Matcher imports = Pattern.compile("import (.*);").matcher(code);
        while (imports.find()) {
            Check.dueText("an import", imports.group(1), "java.util.Arrays");
        }
        Check.due("signs 10, 32 to 126 alone", source.chars().allMatch(c -> c == 10 || c >= 32 && c <= 126) ? 1 : 0, 1);
        String[] lines = code.split("\n", -1);
        int start = 0;
        for (int i = 0; i < lines.length; i++) {
            if (lines[i].matches(" {4}( {4})?\\S.*\\) \\{")) {
                start = i;
            } else if (lines[i].matches(" {4}( {4})?\\}")) {
                Check.due("line " + start + " begins a short method", i - start <= 60 || lines[i].startsWith("    }") ? 1 : 0, 1);
            }
        }
    }
}
