import java.io.IOException;
import java.lang.reflect.Constructor;
import java.lang.reflect.Field;
import java.lang.reflect.Method;
import java.lang.reflect.Modifier;
import java.nio.file.Files;
import java.nio.file.Path;
import java.util.Arrays;
import java.util.Set;
import java.util.TreeSet;
import java.util.regex.Matcher;
import java.util.regex.Pattern;

/** The public face is the document's and no more, and the source keeps out what is ruled out. */
public final class FaceTest {
    private static final Set<String> FACE = new TreeSet<>(Arrays.asList(
        "int say(int, int, int, int, int)", "boolean cut(int)", "int row(int)", "int rows()",
        "int pass(int, int)", "int unpass()", "int encode(int, boolean, int)", "int size(int)",
        "int out(int, int)", "int feed(int, int, int, int)", "boolean end(int, int)", "int take(int)",
        "boolean harm(int, int, int)", "boolean seal(int)", "int decode()", "int decodeBoth()",
        "int look(int)", "int weight(int, int)", "long median(int, int)", "int count(int)"));
    private static final String RULED_OUT =
        "\\b(throw|throws|try|catch|finally|synchronized|assert|volatile|transient|native|Exact|double|float)\\b|->|::";

    private static int wrong = 0;

    private static void check(boolean holds, String what) {
        if (!holds) {
            wrong++;
            System.out.println(what);
        }
    }

    public static void main(String[] args) throws IOException {
        checkFace();
        checkNames();
        checkSource();
        System.out.println(wrong == 0 ? "the face is the document's" : wrong + " things are wrong");
        if (wrong != 0) {
            System.exit(1);
        }
    }

    private static void checkFace() {
        Class<?> type = SoundPress.class;
        check(Modifier.isPublic(type.getModifiers()) && Modifier.isFinal(type.getModifiers()), "class is not public final");
        Set<String> seen = new TreeSet<>();
        for (Method m : type.getDeclaredMethods()) {
            if (Modifier.isPrivate(m.getModifiers())) {
                continue;
            }
            check(m.getModifiers() == Modifier.PUBLIC, "modifiers of " + m);
            seen.add(m.getReturnType() + " " + m.getName() + Arrays.toString(m.getParameterTypes()).replace('[', '(').replace(']', ')'));
        }
        check(seen.equals(FACE), "methods are " + seen);
        for (Field f : type.getDeclaredFields()) {
            check(Modifier.isPrivate(f.getModifiers()) || f.getName().equals("NONE"), "visible field " + f);
            check(!Modifier.isStatic(f.getModifiers()) || Modifier.isFinal(f.getModifiers()), "static field " + f);
        }
        Constructor<?>[] constructors = type.getDeclaredConstructors();
        check(constructors.length == 1 && constructors[0].getParameterCount() == 0
            && Modifier.isPublic(constructors[0].getModifiers()), "constructors");
        check(SoundPress.NONE == -1, "NONE");
    }

    private static void checkNames() {
        Set<String> names = new TreeSet<>();
        for (Method m : SoundPress.class.getDeclaredMethods()) {
            if (!Modifier.isPrivate(m.getModifiers())) {
                names.add(m.getName());
            }
        }
        for (Class<?> inner : SoundPress.class.getDeclaredClasses()) {
            check(Modifier.isStatic(inner.getModifiers()), inner + " is not static");
            for (Method m : inner.getDeclaredMethods()) {
                check(!names.contains(m.getName()), m + " bears a public name");
            }
        }
    }

    private static void checkSource() throws IOException {
        String source = Files.readString(Path.of("src/main/java/SoundPress.java"));
        String code = source.replaceAll("(?s)/\\*.*?\\*/", "").replaceAll("//[^\n]*", "");
        Matcher found = Pattern.compile(RULED_OUT).matcher(code);
        while (found.find()) {
            check(false, "the source has " + found.group());
        }
        Matcher imports = Pattern.compile("import ([^;]*);").matcher(code);
        while (imports.find()) {
            check(imports.group(1).equals("java.util.Arrays"), "import of " + imports.group(1));
        }
    }
}
