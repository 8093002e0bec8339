import java.lang.reflect.Constructor;
import java.lang.reflect.Field;
import java.lang.reflect.Method;
import java.lang.reflect.Modifier;
import java.util.Arrays;
import java.util.Set;
import java.util.TreeSet;

/** The class has the members of the document's public face, and no other one that can be seen. */
public final class FaceTests {
    private static int wrong = 0;

    private static void due(String what, Object got, Object want) {
        if (!got.equals(want)) {
            wrong++;
            System.out.println(what + ": is " + got + ", due is " + want);
        }
    }

    public static void main(String[] args) {
        Class<?> face = SimilarityJoin.class;
        due("modifiers", face.getModifiers(), Modifier.PUBLIC | Modifier.FINAL);
        due("nested classes", face.getDeclaredClasses().length, 0);

        Set<String> seen = new TreeSet<>();
        Set<String> seenNames = new TreeSet<>();
        Set<String> privateNames = new TreeSet<>();
        for (Constructor<?> c : face.getDeclaredConstructors()) {
            seen.add(Modifier.toString(c.getModifiers()) + " new/" + c.getParameterCount());
        }
        for (Method m : face.getDeclaredMethods()) {
            if (Modifier.isPrivate(m.getModifiers())) {
                privateNames.add(m.getName());
                continue;
            }
            boolean ints = m.getReturnType() == int.class
                && Arrays.stream(m.getParameterTypes()).allMatch(p -> p == int.class);
            due("only ints in " + m, ints, true);
            seenNames.add(m.getName());
            seen.add(Modifier.toString(m.getModifiers()) + " " + m.getName() + "/" + m.getParameterCount());
        }
        for (Field f : face.getDeclaredFields()) {
            due("private field " + f.getName(), Modifier.isPrivate(f.getModifiers()), true);
        }
        due("visible members", seen, new TreeSet<>(Set.of(
            "public new/0",
            "public token/1", "public drop/1", "public clear/0", "public recall/1", "public store/0",
            "public remove/1", "public threshold/2", "public records/0", "public size/1", "public has/2",
            "public frequency/1", "public common/2", "public similar/2", "public pairs/0", "public degree/1",
            "public partner/2", "public nearest/1", "public matches/0", "public match/1",
            "public containing/0", "public groups/0", "public groupOf/1", "public groupSize/1")));
        privateNames.retainAll(seenNames);
        due("private methods named like public ones", privateNames, Set.of());

        System.out.println(wrong == 0 ? "the face is as due" : wrong + " things are not as due");
        if (wrong != 0) {
            System.exit(1);
        }
    }
}
