import java.io.IOException;
import java.lang.reflect.Constructor;
import java.lang.reflect.Field;
import java.lang.reflect.Method;
import java.lang.reflect.Modifier;
import java.nio.file.Files;
import java.nio.file.Path;
import java.util.Arrays;
import java.util.List;
import java.util.Set;
import java.util.TreeSet;
import java.util.regex.Matcher;
import java.util.regex.Pattern;

/** The face is the document's and no more, and the source keeps to the rules of LANGUAGE.md that can be looked up. */
public final class FaceTest {
    private static final List<String> FACE = List.of("int sign(int)", "int thing(int)", "int count(int,int)", "long build(int,int)",
        "int own()", "int add(int,int)", "int holds(int,int)", "int broken(int)", "long cost()", "long mean()", "int length(int)",
        "int word(int,int)", "long room()", "int full()", "int canon()", "long node(int,int)", "int write(int)", "int put(int)",
        "int wipe()", "int line(int)", "int read()", "int item(int)", "int grow()", "int send(int)", "int hear()", "int grown(int)",
        "int step()", "int stepSign(int)", "int keep(int)", "int back(int)", "int differs(int)", "int told(int)", "int price(int)",
        "int rank(int)");
    private static final Set<String> CONSTANTS = Set.of("UNKNOWN", "OUTSIDE", "STATE", "FULL", "NO", "NONE", "SPENT");
    private static final Set<String> LIBRARY = Set.of("Arrays.fill", "System.arraycopy", "Math.max", "Math.min",
        "Long.numberOfLeadingZeros", "Long.numberOfTrailingZeros");
    private static final String[] BANNED = {"\\bthrow\\b", "\\bcatch\\b", "\\bfinally\\b", "\\bassert\\b", "\\bsynchronized\\b", "->", "::",
        "\\bpackage\\b", "\\bwhile\\b", "\\bString\\b", "\\bFloat\\b", "\\bDouble\\b", "\\bobject\\b.*hashCode", "\\[\\]\\[\\]", "Exact\\b"};

    private static int wrong = 0;

    private static void must(boolean right, String what) {
        if (!right) {
            wrong++;
            System.out.println("not so: " + what);
        }
    }

    private static String said(Method m) {
        StringBuilder b = new StringBuilder(m.getReturnType() + " " + m.getName() + "(");
        for (int i = 0; i < m.getParameterCount(); i++) b.append(i > 0 ? "," : "").append(m.getParameterTypes()[i]);
        return b.append(")").toString();
    }

    private static void lookAtFace() {
        must(Modifier.isFinal(WordChest.class.getModifiers()) && Modifier.isPublic(WordChest.class.getModifiers()), "public, final");
        Constructor<?>[] makers = WordChest.class.getDeclaredConstructors();
        must(makers.length == 1 && Modifier.isPublic(makers[0].getModifiers()) && makers[0].getParameterCount() == 0, "one constructor");
        Set<String> open = new TreeSet<>();
        for (Method m : WordChest.class.getDeclaredMethods()) {
            if (Modifier.isPublic(m.getModifiers())) open.add(said(m));
            else must(Modifier.isPrivate(m.getModifiers()), "private: " + said(m));
        }
        must(open.equals(new TreeSet<>(FACE)), "the methods of the face: " + open);
        Set<String> constants = new TreeSet<>();
        for (Field f : WordChest.class.getDeclaredFields()) {
            if (Modifier.isPublic(f.getModifiers())) constants.add(f.getName());
            else must(Modifier.isPrivate(f.getModifiers()), "private: " + f);
        }
        must(constants.equals(new TreeSet<>(CONSTANTS)), "the constants of the face: " + constants);
    }

    private static void lookAtNames() {
        Set<String> names = new TreeSet<>();
        for (Method m : WordChest.class.getDeclaredMethods()) if (Modifier.isPublic(m.getModifiers())) names.add(m.getName());
        lookAtMembers(WordChest.class, names, false);
        for (Class<?> c : WordChest.class.getDeclaredClasses()) {
            must(Modifier.isStatic(c.getModifiers()), "static: " + c);
            lookAtMembers(c, names, true);
        }
        must(WordChest.class.getDeclaredClasses().length < 12, "some twelve classes");
    }

    private static void lookAtMembers(Class<?> c, Set<String> names, boolean inside) {
        int fields = 0;
        for (Method m : c.getDeclaredMethods()) {
            must(!names.contains(m.getName()) || !inside && Modifier.isPublic(m.getModifiers()), "another name: " + m);
            must(m.getParameterCount() <= 7, "seven parameters: " + m);
        }
        for (Field f : c.getDeclaredFields()) {
            if (!Modifier.isStatic(f.getModifiers())) fields++;
            else must(Modifier.isFinal(f.getModifiers()), "final: " + f);
        }
        must(fields <= 20, "some twenty fields: " + c);
    }

    private static void lookAtSource() throws IOException {
        String source = Files.readString(Path.of("src/main/java/WordChest.java"));
        String bare = source.replaceAll("(?s)/\\*.*?\\*/", "").replaceAll("//[^\n]*", "");
        for (String banned : BANNED) must(!Pattern.compile(banned).matcher(bare).find(), "without " + banned);
        Matcher imports = Pattern.compile("import ([^;]*);").matcher(bare);
        while (imports.find()) must(imports.group(1).equals("java.util.Arrays"), "imports " + imports.group(1));
        Matcher calls = Pattern.compile("\\b(Arrays|System|Math|Long|Integer|Character)\\.\\w+").matcher(bare);
        while (calls.find()) must(LIBRARY.contains(calls.group()), "the library: " + calls.group());
        must(source.chars().allMatch(c -> c < 128), "plain signs");
        lookAtLengths(source.split("\n"));
    }

    private static void lookAtLengths(String[] lines) {
        for (String close : new String[] {"    }", "        }"}) {
            String indent = close.substring(0, close.length() - 1);
            int begun = -1;
            for (int i = 0; i < lines.length; i++) {
                if (lines[i].startsWith(indent) && lines[i].endsWith("{") && lines[i].contains("(") && lines[i].charAt(indent.length()) != ' ') {
                    begun = i;
                }
                if (lines[i].equals(close) && begun >= 0) {
                    must(i - begun < 60, "a short method: " + lines[begun].trim());
                    begun = -1;
                }
            }
        }
    }

    public static void main(String[] args) throws IOException {
        lookAtFace();
        lookAtNames();
        lookAtSource();
        System.out.println(wrong == 0 ? "the face is as due: " + FACE.size() + " methods" : wrong + " things are not as due");
        if (wrong != 0) {
            System.exit(1);
        }
    }
}
