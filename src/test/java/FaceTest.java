import java.lang.reflect.Constructor;
import java.lang.reflect.Field;
import java.lang.reflect.Member;
import java.lang.reflect.Method;
import java.lang.reflect.Modifier;
import java.util.Set;
import java.util.TreeSet;

// The public face of the document, whole and with nothing beside it.
public final class FaceTest {
    /** As reflection writes them: static, synchronized or a throws clause would show. */
    private static final Set<String> FACE = Set.of(
        "public TwinGraphs(int)",
        "public int TwinGraphs.paint(int,int,int,int)",
        "public int TwinGraphs.colour(int,int,int)",
        "public int TwinGraphs.layings()",
        "public int TwinGraphs.laid(int)",
        "public int TwinGraphs.canLay(int,int,int,int)",
        "public int TwinGraphs.symmetries(int)",
        "public int TwinGraphs.mirror(int,int)",
        "public long TwinGraphs.leastForm(int)",
        "public int TwinGraphs.copySwapped(int,int,int)");

    public static void main(String[] args) {
        Checks.sentence("public final class TwinGraphs", FaceTest::theClass);
        Checks.sentence("The public face", FaceTest::theFace);
        Checks.sentence("The public face (it has no constants)", FaceTest::noFieldShows);
        Checks.sentence("No private method bears the name of a public one", FaceTest::privateNames);
        Checks.end();
    }

    private static void theClass() {
        Checks.same("the class", TwinGraphs.class.toGenericString(), "public final class TwinGraphs");
        Checks.holds("no parent but Object", TwinGraphs.class.getSuperclass() == Object.class);
        Checks.due("interfaces", TwinGraphs.class.getInterfaces().length, 0);
        Checks.due("classes inside", TwinGraphs.class.getDeclaredClasses().length, 0);
    }

    private static void theFace() {
        Set<String> seen = new TreeSet<>();
        for (Constructor<?> made : TwinGraphs.class.getDeclaredConstructors()) {
            if (!isPrivate(made)) {
                seen.add(made.toString());
            }
        }
        for (Method method : TwinGraphs.class.getDeclaredMethods()) {
            if (!isPrivate(method)) {
                seen.add(method.toString());
            }
        }
        Checks.same("the face", seen.toString(), new TreeSet<>(FACE).toString());
    }

    private static void noFieldShows() {
        for (Field field : TwinGraphs.class.getDeclaredFields()) {
            Checks.holds("the field " + field.getName() + " is private", isPrivate(field));
        }
    }

    private static void privateNames() {
        for (Method method : TwinGraphs.class.getDeclaredMethods()) {
            Checks.holds(method + " has a name of its own", !isPrivate(method) || !isPublicName(method.getName()));
        }
    }

    private static boolean isPrivate(Member member) {
        return Modifier.isPrivate(member.getModifiers());
    }

    private static boolean isPublicName(String name) {
        return FACE.stream().anyMatch(face -> face.contains("." + name + "("));
    }
}
