import java.io.IOException;
import java.lang.reflect.Constructor;
import java.lang.reflect.Field;
import java.lang.reflect.Method;
import java.lang.reflect.Modifier;
import java.nio.charset.StandardCharsets;
import java.nio.file.Files;
import java.nio.file.Path;
import java.util.Arrays;
import java.util.Set;
import java.util.TreeSet;
import java.util.regex.Matcher;
import java.util.regex.Pattern;

/** The public face, and the rules of LANGUAGE.md that a glance at the text can find broken. */
public final class FaceTest {
    private static final Set<String> FACE = Set.of(
        "int pair(int,int)", "int drop(int,int)", "int has(int,int)", "int next(int,int)", "int degree(int,int)",
        "int meet(int,int)", "int back(int,int)", "int form(int,int)", "int setting(int,int)", "int length(int,int)",
        "int cost(int,int,int)", "int pack()", "int told(int,int)", "int looked(int)", "int would(int,int)",
        "int forms()", "int best()", "int bit(int)", "int place(int)", "long sum()", "int alter(int,int)",
        "int judge()", "int order(int,int)", "int renumber(int)", "int threes()", "int parts(int)",
        "int far(int,int)", "int count(int)");
    private static final String[] RULED_OUT = {
        "throw", "throws", "try", "catch", "finally", "synchronized", "assert", "->", "::", "protected",
        "Integer.MAX_VALUE", "Random", "Thread", "System.out", "System.nano", "System.current", "hashCode", "toString", "package"};

    private final Checks checks = new Checks();

    public static void main(String[] args) throws IOException {
        FaceTest test = new FaceTest();
        test.members();
        test.text();
        test.checks.end();
    }

    private void yes(String what, boolean is) {
        checks.due(what, is ? 1 : 0, 1);
    }

    private void members() {
        Class<?> face = NeighbourBook.class;
        yes("public and final", Modifier.isPublic(face.getModifiers()) && Modifier.isFinal(face.getModifiers()));
        Set<String> found = new TreeSet<>();
        Set<String> names = new TreeSet<>();
        for (Method m : face.getDeclaredMethods()) {
            if (Modifier.isPublic(m.getModifiers())) {
                String types = Arrays.toString(m.getParameterTypes()).replaceAll("[\\[\\] ]", "");
                found.add(m.getReturnType() + " " + m.getName() + "(" + types + ")");
                names.add(m.getName());
                yes(m.getName() + " is no static method", !Modifier.isStatic(m.getModifiers()));
            } else {
                yes(m.getName() + " is private", Modifier.isPrivate(m.getModifiers()));
            }
        }
        yes("the methods are " + found, found.equals(FACE));
        for (Constructor<?> c : face.getDeclaredConstructors()) {
            yes("the constructor", Modifier.isPublic(c.getModifiers()) && c.toString().endsWith("(int)"));
        }
        Set<String> constants = new TreeSet<>();
        for (Field f : face.getDeclaredFields()) {
            if (Modifier.isPublic(f.getModifiers())) {
                constants.add(f.getName());
            } else {
                yes(f.getName() + " is private", Modifier.isPrivate(f.getModifiers()));
            }
            yes(f.getName() + " is final if static", !Modifier.isStatic(f.getModifiers()) || Modifier.isFinal(f.getModifiers()));
        }
        yes("the constants", constants.equals(Set.of("NONE", "BAD", "STATE", "FULL")));
        for (Class<?> inside : face.getDeclaredClasses()) {
            yes(inside + " is static", Modifier.isStatic(inside.getModifiers()));
            for (Method m : inside.getDeclaredMethods()) {
                yes(m + " has a name of its own", !names.contains(m.getName()));
                yes(m + " has at most seven parameters", m.getParameterCount() <= 7);
            }
            yes(inside + " has few fields", inside.getDeclaredFields().length <= 20);
        }
        yes("few classes", face.getDeclaredClasses().length < 12);
    }

    private void text() throws IOException {
        String text = Files.readString(Path.of("src/main/java/NeighbourBook.java"), StandardCharsets.UTF_8);
        String code = text.replaceAll("(?s)/\\*.*?\\*/", "").replaceAll("//[^\n]*", "");
        for (String word : RULED_OUT) {
            boolean letters = Character.isLetter(word.charAt(0));
            Matcher m = Pattern.compile(letters ? "\\b" + Pattern.quote(word) + "\\b" : Pattern.quote(word)).matcher(code);
            yes("without " + word, !m.find());
        }
        yes("without functions whose name ends in Exact", !code.contains("Exact("));
        for (String line : code.split("\n")) {
            // A final field gets its value as the object is made, so no call makes what is kept there.
            yes("made for a final field: " + line.strip(), !line.contains("new ") || isForFinalField(line, code));
        }
        Matcher imports = Pattern.compile("import ([^;]*);").matcher(code);
        while (imports.find()) {
            yes("import of " + imports.group(1), imports.group(1).equals("java.util.Arrays"));
        }
    }

    private static boolean isForFinalField(String line, String code) {
        Matcher m = Pattern.compile("(\\w+) = new [^;]*;$").matcher(line);
        return m.find() && code.matches("(?s).*\n {4,8}private final [\\w\\[\\]]+ " + m.group(1) + "( =|;).*");
    }
}
