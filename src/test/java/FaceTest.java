import java.lang.reflect.Constructor;
import java.lang.reflect.Field;
import java.lang.reflect.Method;
import java.lang.reflect.Modifier;
import java.util.Arrays;
import java.util.Set;
import java.util.TreeSet;

/** The public face is the document's and no more (rule 1 of LANGUAGE.md). */
public final class FaceTest {
    private static final Set<String> FACE = new TreeSet<>(Arrays.asList(
        "int say(int, int, int, int, int)", "boolean cut(int)", "int row(int)", "int rows()",
        "int pass(int, int)", "int unpass()", "int encode(int, boolean, int)", "int size(int)",
        "int out(int, int)", "int feed(int, int, int, int)", "boolean end(int, int)", "int take(int)",
        "boolean harm(int, int, int)", "boolean seal(int)", "int decode()", "int decodeBoth()",
        "int look(int)", "int weight(int, int)", "long median(int, int)", "int count(int)"));

    public static void main(String[] args) {
        Due.run(FaceTest.class);
    }

    static void theClassIsPublicAndFinal() {
        int modifiers = SoundPress.class.getModifiers();
        Due.yes("public", Modifier.isPublic(modifiers));
        Due.yes("final", Modifier.isFinal(modifiers));
        Due.same("package", SoundPress.class.getPackageName(), "");
        Due.same("class above", SoundPress.class.getSuperclass(), Object.class);
    }

    static void theMethodsAreTheDocuments() {
        Set<String> seen = new TreeSet<>();
        for (Method m : SoundPress.class.getDeclaredMethods()) {
            if (!Modifier.isPrivate(m.getModifiers()) && !m.isSynthetic()) {
                Due.due("modifiers of " + m, m.getModifiers(), Modifier.PUBLIC);
                String parameters = Arrays.toString(m.getParameterTypes());
                seen.add(m.getReturnType() + " " + m.getName() + "(" + parameters.substring(1, parameters.length() - 1) + ")");
            }
        }
        Due.same("methods", seen, FACE);
    }

    static void theConstantIsTheDocuments() {
        for (Field f : SoundPress.class.getDeclaredFields()) {
            if (!Modifier.isPrivate(f.getModifiers()) && !f.isSynthetic()) {
                Due.same("visible field", f.toString(), "public static final int SoundPress.NONE");
            }
        }
        Due.due("NONE", SoundPress.NONE, -1);
    }

    static void theConstructorIsTheDocuments() {
        Constructor<?>[] constructors = SoundPress.class.getDeclaredConstructors();
        Due.due("constructors", constructors.length, 1);
        Due.due("parameters", constructors[0].getParameterCount(), 0);
        Due.yes("public", Modifier.isPublic(constructors[0].getModifiers()));
    }

    static void classesInsideAreStaticAndNotSeen() {
        for (Class<?> inner : SoundPress.class.getDeclaredClasses()) {
            int modifiers = inner.getModifiers();
            Due.yes(inner + " is static", Modifier.isStatic(modifiers));
            Due.no(inner + " is public", Modifier.isPublic(modifiers));
            Due.no(inner + " is protected", Modifier.isProtected(modifiers));
        }
    }

    static void noPrivateMethodBearsAPublicName() {
        for (Method m : SoundPress.class.getDeclaredMethods()) {
            hasNoPublicName(m);
        }
        for (Class<?> inner : SoundPress.class.getDeclaredClasses()) {
            for (Method m : inner.getDeclaredMethods()) {
                hasNoPublicName(m);
            }
        }
    }

    private static void hasNoPublicName(Method m) {
        boolean bears = FACE.stream().anyMatch(face -> face.contains(" " + m.getName() + "("));
        Due.no(m + " bears a public name", bears && Modifier.isPrivate(m.getModifiers()));
    }
}
