import java.lang.reflect.Constructor;
import java.lang.reflect.Executable;
import java.lang.reflect.Field;
import java.lang.reflect.Method;
import java.lang.reflect.Modifier;
import java.util.Arrays;
import java.util.List;
import java.util.Set;
import java.util.TreeSet;
import java.util.stream.Collectors;

/**
 * The class has the members of the document's public face, with their names, parameters and
 * types, and no other one that can be seen. The parameters' names are in the compiled class only
 * if javac was told -parameters, as .ci/run does.
 */
public final class FaceTests {
    private static final Class<?> FACE = SimilarityJoin.class;

    /** As the document writes them. */
    private static final List<String> MEMBERS = List.of(
        "public SimilarityJoin()",
        "public int token(int token)",
        "public int drop(int token)",
        "public int clear()",
        "public int recall(int which)",
        "public int store()",
        "public int remove(int which)",
        "public int threshold(int t, int u)",
        "public int records()",
        "public int size(int which)",
        "public int has(int which, int token)",
        "public int frequency(int token)",
        "public int common(int a, int b)",
        "public int similar(int a, int b)",
        "public int pairs()",
        "public int degree(int which)",
        "public int partner(int which, int i)",
        "public int nearest(int which)",
        "public int matches()",
        "public int match(int from)",
        "public int containing()",
        "public int groups()",
        "public int groupOf(int which)",
        "public int groupSize(int which)");

    private static String beginOf(Executable member) {
        String modifiers = Modifier.toString(member.getModifiers());
        return modifiers.isEmpty() ? "" : modifiers + " ";
    }

    private static String parametersOf(Executable member) {
        return Arrays.stream(member.getParameters())
            .map(parameter -> parameter.getType().getTypeName() + " " + parameter.getName())
            .collect(Collectors.joining(", ", "(", ")"));
    }

    private static String told(Constructor<?> constructor) {
        return beginOf(constructor) + constructor.getName() + parametersOf(constructor);
    }

    private static String told(Method method) {
        return beginOf(method) + method.getReturnType().getTypeName() + " " + method.getName() + parametersOf(method);
    }

    private static boolean isPrivate(Executable member) {
        return Modifier.isPrivate(member.getModifiers());
    }

    private static void theClass() {
        Due.same("the name with its package", FACE.getName(), "SimilarityJoin");
        Due.same("the modifiers", Modifier.toString(FACE.getModifiers()), "public final");
        Due.same("the class above it", FACE.getSuperclass(), Object.class);
        Due.same("the number of interfaces", FACE.getInterfaces().length, 0);
        Due.same("the number of type parameters", FACE.getTypeParameters().length, 0);
        Due.same("the number of nested classes", FACE.getDeclaredClasses().length, 0);
    }

    private static void theMembers() {
        Set<String> seen = new TreeSet<>();
        for (Constructor<?> constructor : FACE.getDeclaredConstructors()) {
            seen.add(told(constructor));
            Due.same("exceptions of " + constructor, constructor.getExceptionTypes().length, 0);
        }
        for (Method method : FACE.getDeclaredMethods()) {
            if (!isPrivate(method)) {
                seen.add(told(method));
                Due.same("exceptions of " + method, method.getExceptionTypes().length, 0);
            }
        }
        for (String member : MEMBERS) {
            Due.same("the class has " + member, seen.contains(member), true);
        }
        seen.removeAll(MEMBERS);
        Due.same("what else can be seen", seen, Set.of());
    }

    private static void theFields() {
        for (Field field : FACE.getDeclaredFields()) {
            Due.same("private is " + field.getName(), Modifier.isPrivate(field.getModifiers()), true);
        }
    }

    public static void main(String[] args) {
        Due.sentence("The public face: public final class SimilarityJoin", FaceTests::theClass);
        Due.sentence("The public face: the constructor and the methods, and nothing more", FaceTests::theMembers);
        Due.sentence("The public face: no constant", FaceTests::theFields);
        Due.end();
    }
}
