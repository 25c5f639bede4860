import java.io.IOException;
import java.lang.reflect.Constructor;
import java.lang.reflect.Field;
import java.lang.reflect.Method;
import java.lang.reflect.Modifier;
import java.nio.file.Files;
import java.nio.file.Path;
import java.util.ArrayList;
import java.util.Arrays;
import java.util.HashSet;
import java.util.List;
import java.util.Set;
import java.util.TreeSet;
import java.util.regex.Matcher;
import java.util.regex.Pattern;

/** The face as the document has it, and the rules of LANGUAGE.md that can be seen from outside. */
public final class FaceTest {
    private static final String FACE = "set(int,int)int sender(int,int,int,boolean)boolean last(int)int "
        + "seen(int,int,int)int packets(int,int,int)int letters(int,int)int queue(int,int)int act(int,int,int)int "
        + "run(int,int,boolean)int of(int)int kind(int,int,int)int queued(int)int count(int)int possible(int,int)int "
        + "reached()int worst()int soonest()int way(int,int)int barren()int steps()int odds(int)long enough()int "
        + "every(int)int struck()int row(int,int)int feed(long,long,long)int end(int)int script()int image()boolean "
        + "back()boolean";
    private static final String[] FORBIDDEN = {"\\btry\\b", "\\bcatch\\b", "\\bfinally\\b", "->", "::", "\\bassert\\b",
        "\\bsynchronized\\b", "\\bSystem\\.(?!arraycopy)", "\\bThread\\b", "\\brandom\\b", "\\bMath\\.\\w+Exact\\b",
        "\"\\s*\\+", "\\+\\s*\"", "\\bDouble\\b", "\\bstatic\\s*\\{", "\\bhashCode\\b", "\\btoString\\b", "[^\\x00-\\x7F]"};
    private static final String[] IMPORTS = {"import java.util.Arrays;", "import java.util.NoSuchElementException;"};

    private FaceTest() {
    }

    public static void main(String[] args) throws IOException {
        members();
        Path source = Path.of("src/main/java/HealLink.java");
        String text = Files.readString(source);
        words(text.replaceAll("(?s)/\\*.*?\\*/", "").replaceAll("//.*", ""));
        lengths(text);
        Due.close("FaceTest");
    }

    private static void members() {
        Set<String> face = new TreeSet<>();
        Set<String> names = new HashSet<>();
        for (Method m : HealLink.class.getDeclaredMethods()) {
            if (Modifier.isPublic(m.getModifiers())) {
                face.add(shown(m));
                names.add(m.getName());
            }
        }
        Due.is("the face " + face, face.equals(new TreeSet<>(Arrays.asList(FACE.split(" ")))), true);
        for (Method m : HealLink.class.getDeclaredMethods()) {
            boolean open = Modifier.isPublic(m.getModifiers());
            Due.is(m + " is public or private", open || Modifier.isPrivate(m.getModifiers()) || m.isSynthetic(), true);
            Due.is(m + " bears a name of its own", open || !names.contains(m.getName()), true);
        }
        for (Field f : HealLink.class.getDeclaredFields()) {
            Due.is(f + " is private", Modifier.isPrivate(f.getModifiers()) || f.getName().equals("NONE"), true);
            Due.is(f + " is final if static", Modifier.isFinal(f.getModifiers()) || !Modifier.isStatic(f.getModifiers()),
                true);
        }
        for (Constructor<?> c : HealLink.class.getDeclaredConstructors()) {
            Due.is(c + " is public", Modifier.isPublic(c.getModifiers()) && c.getParameterCount() == 0, true);
        }
        int classes = 1;
        for (Class<?> c : HealLink.class.getDeclaredClasses()) {
            Due.is(c + " is static", Modifier.isStatic(c.getModifiers()), true);
            Due.is(c + " has some twenty fields", c.getDeclaredFields().length <= 26, true);
            classes++;
        }
        Due.is(classes + " classes are some twelve", classes <= 12, true);
        Due.is("the class is public and final", HealLink.class.getModifiers(), Modifier.PUBLIC | Modifier.FINAL);
    }

    private static String shown(Method m) {
        List<String> types = new ArrayList<>();
        for (Class<?> c : m.getParameterTypes()) {
            types.add(c.getName());
        }
        return m.getName() + "(" + String.join(",", types) + ")" + m.getReturnType().getName();
    }

    private static void words(String code) {
        for (String word : FORBIDDEN) {
            Matcher m = Pattern.compile(word).matcher(code);
            Due.is("the source without " + word, m.find(), false);
        }
        Matcher m = Pattern.compile("(?m)^import .*$").matcher(code);
        while (m.find()) {
            Due.is(m.group(), Arrays.asList(IMPORTS).contains(m.group()), true);
        }
        Due.is("no package", code.contains("package "), false);
        Matcher fields = Pattern.compile("(?m)^.*\\bstatic final (?!class|long |int |boolean |char |String ).*;").matcher(code);
        Due.is("static fields of int, long, boolean, char, String", fields.find(), false);
    }

    private static void lengths(String text) {
        String[] lines = text.split("\n");
        for (int i = 0; i < lines.length; i++) {
            Matcher m = Pattern.compile("^( {4}| {8})\\S.*\\) (throws \\w+ )?\\{$").matcher(lines[i]);
            if (!m.matches() || lines[i].contains("class ")) {
                continue;
            }
            int end = i;
            while (end < lines.length && !lines[end].equals(m.group(1) + "}")) {
                end++;
            }
            Due.is(lines[i].strip() + " is short", end - i <= 60, true);
        }
    }
}
