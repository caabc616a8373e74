import java.lang.reflect.Constructor;
import java.lang.reflect.Field;
import java.lang.reflect.Method;
import java.lang.reflect.Modifier;
import java.nio.file.Files;
import java.nio.file.Path;
import java.util.HashSet;
import java.util.Set;
import java.util.TreeSet;
import java.util.regex.Matcher;
import java.util.regex.Pattern;

/** The public face, and the rules of LANGUAGE.md that can be read off the class and its text. */
public final class FaceTest {
    private static final String[] FACE = {
        "int begin(int,int)", "int put(int,long)", "int make(int)", "int number(int,int)",
        "int sort(int)", "int join(int,int)", "int meet(int,int)", "int on(int,int)",
        "long cross(int,int,int,int)", "int fourth(int,int,int,long)", "int pair(int,int)",
        "int map()", "int apply(int,int)", "int compose(int,int)", "int inverse(int)",
        "int order(int)", "int gather(int)", "int forget()", "int quadric()", "int rank(int)",
        "int polar(int,int)", "long touches(int,int)", "int common(int,int,int)",
        "int root(long)", "int dual(int)", "int ideal(int)", "int parallel(int,int)",
        "int middle(int,int)", "int holds(int)", "int told(int)"};

    private static final String[] NOT_ALLOWED = {
        "throw", "throws", "try", "catch", "synchronized", "assert", "->", "::", "Exact(",
        "Arrays.equals", "Arrays.asList", "Arrays.stream", "hashCode", "toString", "Object",
        "double", "float", "random", "Thread", "static {", "record "};

    public static void main(String[] args) throws Exception {
        Check.due("NONE", ProjectiveRows.NONE, -1);
        Check.due("BAD", ProjectiveRows.BAD, -2);
        Check.due("FULL", ProjectiveRows.FULL, -3);
        methods();
        fieldsAndConstructors();
        classesInside();
        text();
        Check.end("FaceTest");
    }

    private static Set<String> namesOfFace() {
        Set<String> names = new HashSet<>();
        for (String one : FACE) {
            names.add(one.substring(one.indexOf(' ') + 1, one.indexOf('(')));
        }
        return names;
    }

    private static void methods() {
        Set<String> due = new TreeSet<>(Set.of(FACE));
        Set<String> names = namesOfFace();
        Set<String> got = new TreeSet<>();
        for (Method m : ProjectiveRows.class.getDeclaredMethods()) {
            if (Modifier.isPrivate(m.getModifiers())) {
                Check.due("private method " + m.getName() + " has a name of its own",
                    !names.contains(m.getName()));
                continue;
            }
            Check.due(m.getName() + " is public and not static",
                Modifier.isPublic(m.getModifiers()) && !Modifier.isStatic(m.getModifiers()));
            got.add(signature(m));
        }
        Check.due("the methods are those of the document: " + got, got.equals(due));
    }

    private static String signature(Method m) {
        StringBuilder s = new StringBuilder(m.getReturnType().getName());
        s.append(' ').append(m.getName()).append('(');
        for (Class<?> c : m.getParameterTypes()) {
            s.append(s.charAt(s.length() - 1) == '(' ? "" : ",").append(c.getName());
        }
        return s.append(')').toString();
    }

    private static void fieldsAndConstructors() {
        Check.due("final", Modifier.isFinal(ProjectiveRows.class.getModifiers()));
        Check.due("public", Modifier.isPublic(ProjectiveRows.class.getModifiers()));
        Set<String> constants = Set.of("NONE", "BAD", "FULL");
        int instance = 0;
        for (Field f : ProjectiveRows.class.getDeclaredFields()) {
            boolean isPrivate = Modifier.isPrivate(f.getModifiers());
            Check.due("field " + f.getName(), isPrivate || constants.contains(f.getName()));
            if (Modifier.isStatic(f.getModifiers())) {
                Check.due("final " + f.getName(), Modifier.isFinal(f.getModifiers()));
            } else {
                instance++;
            }
        }
        Check.due("twenty fields at most", instance <= 20);
        Constructor<?>[] made = ProjectiveRows.class.getDeclaredConstructors();
        Check.due("one constructor", made.length, 1);
        Check.due("public constructor", Modifier.isPublic(made[0].getModifiers()));
    }

    private static void classesInside() {
        Set<String> face = namesOfFace();
        Class<?>[] all = ProjectiveRows.class.getDeclaredClasses();
        Check.due("twelve classes at most", all.length < 12);
        for (Class<?> inside : all) {
            String name = inside.getSimpleName();
            Check.due(name + " is static", Modifier.isStatic(inside.getModifiers()));
            Check.due(name + " is not public", (inside.getModifiers()
                & (Modifier.PUBLIC | Modifier.PROTECTED)) == 0);
            Check.due(name + " has no class inside", inside.getDeclaredClasses().length, 0);
            Check.due(name + " has twenty fields at most", inside.getDeclaredFields().length <= 20);
            for (Field f : inside.getDeclaredFields()) {
                Check.due(name + "." + f.getName() + " is of the object",
                    !Modifier.isStatic(f.getModifiers()));
            }
            for (Method m : inside.getDeclaredMethods()) {
                Check.due(name + "." + m.getName() + " has a name of its own",
                    !face.contains(m.getName()));
                Check.due(name + "." + m.getName() + ": seven parameters at most",
                    m.getParameterCount() <= 7);
            }
        }
    }

    /** By the braces of a text that is indented by four. */
    private static void methodsAreShort(String text) {
        String[] lines = text.split("\n");
        for (int k = 0; k < lines.length; k++) {
            Matcher head = Pattern.compile("( {4}| {8})\\w.*\\) \\{").matcher(lines[k]);
            if (!head.matches()) {
                continue;
            }
            int end = k;
            while (end < lines.length && !lines[end].equals(head.group(1) + "}")) {
                end++;
            }
            Check.due("some sixty lines at most: " + lines[k].trim(), end - k <= 60);
        }
    }

    private static void text() throws Exception {
        String text = Files.readString(Path.of("src/main/java/ProjectiveRows.java"));
        String code = text.replaceAll("(?s)/\\*.*?\\*/", "").replaceAll("//[^\n]*", "");
        for (String word : NOT_ALLOWED) {
            boolean isWord = Character.isLetter(word.charAt(word.length() - 1));
            Matcher found = Pattern.compile((isWord ? "\\b" : "") + Pattern.quote(word)
                + (isWord ? "\\b" : "")).matcher(code);
            Check.due("the code is without '" + word + "'", !found.find());
        }
        methodsAreShort(text);
        Check.due("no package", !Pattern.compile("(?m)^package").matcher(code).find());
    }
}
