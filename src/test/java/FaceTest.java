import java.io.IOException;
import java.lang.reflect.Constructor;
import java.lang.reflect.Field;
import java.lang.reflect.Method;
import java.lang.reflect.Modifier;
import java.nio.file.Files;
import java.nio.file.Path;
import java.util.ArrayList;
import java.util.Collections;
import java.util.HashSet;
import java.util.List;
import java.util.Set;
import java.util.regex.Matcher;
import java.util.regex.Pattern;

/** The public face of the document, and the rules of LANGUAGE.md that can be seen without reading the code. */
public final class FaceTest {
    private static final List<String> METHODS = List.of(
            "int question(int int int)", "int key(int int)", "int strike(int int)", "int paper()",
            "int put(int int)", "int at(int int)", "int pupil(int int)", "int answer(int int int)",
            "int gap(int int)", "int row(int long)", "int mark(int int)", "int come(int int)",
            "int total(int)", "long easy(int int)", "long sharp(int)", "int leaky(int int int)",
            "int leak(int int)", "int shared(int int)", "int sum(int int)", "long group(int int int)",
            "long scale(int int int int)", "int rank(int int)", "int like(int int int)",
            "int judge(int int int int)", "long cut(int int)", "int passes(int)", "int border(int int)",
            "int alike(int int)", "int pair(int int int)", "int count(int)");
    private static final List<String> FIELDS = List.of("int NONE", "int BAD", "int STATE", "int FULL", "long NO");
    private static final Due due = new Due();

    public static void main(String[] args) throws IOException {
        constants();
        methods();
        fields();
        String text = Files.readString(Path.of("src/main/java/ExamScales.java"));
        source(text);
        lengths(text);
        due.end();
    }

    private static void constants() {
        due.is("NONE", ExamScales.NONE, -1);
        due.is("BAD", ExamScales.BAD, -2);
        due.is("STATE", ExamScales.STATE, -3);
        due.is("FULL", ExamScales.FULL, -4);
        due.is("NO", ExamScales.NO, Long.MIN_VALUE);
        int modifiers = ExamScales.class.getModifiers();
        due.isTrue("the class is public and final", Modifier.isPublic(modifiers) && Modifier.isFinal(modifiers));
        Constructor<?>[] made = ExamScales.class.getDeclaredConstructors();
        due.is("constructors", made.length, 1);
        due.isTrue("it is public, without arguments",
                Modifier.isPublic(made[0].getModifiers()) && made[0].getParameterCount() == 0);
    }

    private static void methods() {
        List<String> seen = new ArrayList<>();
        Set<String> shown = new HashSet<>(), hidden = new HashSet<>();
        for (Method m : ExamScales.class.getDeclaredMethods()) {
            due.isTrue(m + " takes at most seven", m.getParameterCount() <= 7);
            if (Modifier.isPrivate(m.getModifiers())) {
                hidden.add(m.getName());
                continue;
            }
            shown.add(m.getName());
            List<String> types = new ArrayList<>();
            for (Class<?> type : m.getParameterTypes()) {
                types.add(type.getName());
            }
            seen.add(m.getReturnType() + " " + m.getName() + "(" + String.join(" ", types) + ")");
            due.is(m + " is public and nothing else", m.getModifiers(), Modifier.PUBLIC);
        }
        same("methods", seen, METHODS);
        due.isTrue("no private method bears the name of a public one", Collections.disjoint(shown, hidden));
    }

    private static void fields() {
        List<String> seen = new ArrayList<>();
        int kept = 0;
        for (Field f : ExamScales.class.getDeclaredFields()) {
            int modifiers = f.getModifiers();
            kept += Modifier.isStatic(modifiers) ? 0 : 1;
            due.isTrue(f + " is final if it is static", !Modifier.isStatic(modifiers) || Modifier.isFinal(modifiers));
            if (!Modifier.isPrivate(modifiers)) {
                seen.add(f.getType() + " " + f.getName());
                due.isTrue(f + " is public and static", Modifier.isPublic(modifiers) && Modifier.isStatic(modifiers));
            }
        }
        same("fields", seen, FIELDS);
        due.isTrue(kept + " fields are some twenty", kept <= 20);
    }

    private static void lengths(String text) {
        int begun = 0, line = 0;
        for (String l : text.split("\n")) {
            line++;
            if (l.matches("    (public|private) [^=;]*\\{")) {
                begun = line;
            } else if (l.equals("    }")) {
                due.isTrue("the method at line " + begun + " is short", line - begun < 60);
            }
        }
        due.isTrue("methods were seen", begun > 0);
    }

    private static void same(String what, List<String> seen, List<String> wanted) {
        List<String> more = new ArrayList<>(seen), fewer = new ArrayList<>(wanted);
        more.removeAll(wanted);
        fewer.removeAll(seen);
        due.isTrue(what + " that the document does not have: " + more, more.isEmpty());
        due.isTrue(what + " that the document has: " + fewer, fewer.isEmpty());
        due.is(what, seen.size(), wanted.size());
    }

    private static void source(String text) {
        String code = text.replaceAll("(?s)/\\*.*?\\*/", " ").replaceAll("//[^\n]*", " ");
        String forbidden = "\\b(package|throw|throws|try|catch|synchronized|assert|Random|Thread)\\b"
                + "|Exact\\b|\\bSystem\\.(?!arraycopy)|\\bstatic\\s*\\{|->|::|@";
        Matcher found = Pattern.compile(forbidden).matcher(code);
        while (found.find()) {
            due.isTrue("forbidden: " + found.group(), false);
        }
        due.isTrue("characters 0 to 127 alone", text.chars().allMatch(c -> c < 128));
        Matcher imports = Pattern.compile("import ([^;]*);").matcher(code);
        while (imports.find()) {
            due.isTrue("import " + imports.group(1),
                    List.of("java.util.Arrays", "java.util.ArrayList", "java.util.List").contains(imports.group(1)));
        }
    }
}
