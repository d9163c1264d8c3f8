import java.io.IOException;
import java.lang.reflect.Field;
import java.lang.reflect.Method;
import java.lang.reflect.Modifier;
import java.nio.file.Files;
import java.nio.file.Path;
import java.util.Arrays;
import java.util.Set;
import java.util.TreeSet;
import java.util.regex.Matcher;
import java.util.regex.Pattern;

/** The public face of the document, and those rules of LANGUAGE.md that can be looked up in the text of the class. */
public final class FaceTest {
    private static final String FACE = "int feed(int) int end(int) int text() int fault() int rule(int) int room(int,int) "
        + "int wall(int) int outside(int) int alter(int,int,int) int fit(int,int,int) int strip(int) int mark(int,int) "
        + "int lag(int,int) int sky(int,int) int hours(int) int runs(int,int) int ahead(int,int,int) int cold(int,int) "
        + "int again() int need(int,int,int) int kind(int,int,int) int swap(int,int) int seal(int,int) int spare(int,int,int) "
        + "long luck(int,int,int,int,int) long mean(int,int,int) int see(int,int,int) int forget(int) int kinds(int) "
        + "int lets(int) int ask(int,int) int drift(int,int,int) int keep(int) int back(int) int sheet(int,int,int) "
        + "int lay(int,int,int) int read(int,int,int,int) int torn() int count(int)";
    private static final String[] RULED_OUT = {"throw", "throws", "try", "catch", "finally", "synchronized", "assert", "import",
        "package", "native", "volatile", "transient", "Object", "Exception", "var", "protected", "System\\.(?!arraycopy)",
        "\\w+Exact", "->", "::", "hashCode", "toString", "Random", "Thread", "float", "double"};
    private static int wrong = 0;

    private static void due(boolean holds, String what) {
        if (!holds) {
            wrong++;
            System.out.println(what);
        }
    }

    private static void face() {
        Class<?> face = TongueRooms.class;
        Set<String> due = new TreeSet<>(Arrays.asList(FACE.split("(?<=\\)) ")));
        Set<String> found = new TreeSet<>();
        Set<String> names = new TreeSet<>();
        for (Method m : face.getDeclaredMethods()) {
            if (Modifier.isPrivate(m.getModifiers())) continue;
            String numbers = String.join(",", Arrays.stream(m.getParameterTypes()).map(Class::getName).toList());
            found.add(m.getReturnType() + " " + m.getName() + "(" + numbers + ")");
            names.add(m.getName());
            due(Modifier.isPublic(m.getModifiers()) && !Modifier.isStatic(m.getModifiers()), m + " is not as in the face");
        }
        due(found.equals(due), "the methods are " + found);
        for (Field f : face.getDeclaredFields()) {
            boolean constant = Set.of("BAD", "STATE", "FULL", "NONE").contains(f.getName());
            due(constant ? Modifier.toString(f.getModifiers()).equals("public static final")
                : Modifier.isPrivate(f.getModifiers()), f + " is seen");
        }
        due(Modifier.toString(face.getModifiers()).equals("public final"), "the class is not public and final");
        due(face.getDeclaredConstructors().length == 1 && face.getConstructors().length == 1, "the constructor");
        for (Class<?> inside : face.getDeclaredClasses()) {
            due(Modifier.isStatic(inside.getModifiers()), inside + " is not static");
            for (Method m : inside.getDeclaredMethods()) {
                due(!names.contains(m.getName()), m + " bears the name of a public one");
                due(m.getParameterCount() <= 7, m + " takes more than seven");
            }
        }
        for (Method m : face.getDeclaredMethods()) {
            due(!Modifier.isPrivate(m.getModifiers()) || !names.contains(m.getName()), m + " bears the name of a public one");
            due(m.getParameterCount() <= 7, m + " takes more than seven");
        }
        due(face.getDeclaredClasses().length <= 12, "more than twelve classes");
    }

    private static void words(String source) {
        String code = source.replaceAll("(?s)/\\*.*?\\*/", "").replaceAll("//[^\n]*", "").replaceAll("\"[^\"\n]*\"", "\"\"");
        for (String word : RULED_OUT) {
            Matcher m = Pattern.compile(Character.isLetter(word.charAt(0)) ? "\\b" + word + "\\b" : word).matcher(code);
            due(!m.find(), "the text of the class has " + word);
        }
        due(source.chars().allMatch(c -> c == '\n' || c >= 32 && c < 127), "a sign that is none of ASCII's");
    }

    private static void lengths(String source) {
        String[] lines = source.split("\n");
        int begin = -1;
        String indent = "";
        for (int i = 0; i < lines.length; i++) {
            Matcher m = Pattern.compile("^( {4}| {8})[a-z][^;=]*\\) \\{$").matcher(lines[i]);
            if (begin < 0 && m.matches()) {
                begin = i;
                indent = m.group(1);
            } else if (begin >= 0 && lines[i].equals(indent + "}")) {
                due(i - begin <= 60, "too long: " + lines[begin]);
                begin = -1;
            }
        }
    }

    public static void main(String[] args) throws IOException {
        Path root = Path.of(System.getProperty("project.root", "."));
        String source = Files.readString(root.resolve("src/main/java/TongueRooms.java"));
        face();
        words(source);
        lengths(source);
        System.out.println(wrong == 0 ? "the face is as told" : wrong + " faults of the face");
        if (wrong != 0) System.exit(1);
    }
}
