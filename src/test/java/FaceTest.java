import java.lang.reflect.Constructor;
import java.lang.reflect.Field;
import java.lang.reflect.Member;
import java.lang.reflect.Method;
import java.lang.reflect.Modifier;
import java.util.Set;
import java.util.TreeSet;

// The public face of the document, whole and with nothing beside it.
public final class FaceTest {
    private static final Set<String> FACE = Set.of(
        "TwinGraphs(int)",
        "int paint(int,int,int,int)",
        "int colour(int,int,int)",
        "int layings()",
        "int laid(int)",
        "int canLay(int,int,int,int)",
        "int symmetries(int)",
        "int mirror(int,int)",
        "long leastForm(int)",
        "int copySwapped(int,int,int)");

    private static int wrong = 0;

    public static void main(String[] args) {
        Set<String> seen = new TreeSet<>();
        for (Constructor<?> made : TwinGraphs.class.getDeclaredConstructors()) {
            if (!isPrivate(made)) {
                seen.add((isPublic(made) ? "" : "not public: ") + "TwinGraphs" + types(made.getParameterTypes()));
            }
        }
        for (Method method : TwinGraphs.class.getDeclaredMethods()) {
            String face = method.getReturnType() + " " + method.getName() + types(method.getParameterTypes());
            if (!isPrivate(method)) {
                seen.add((isPublic(method) ? "" : "not public: ") + face);
            } else {
                check(!isPublicName(method.getName()), "the private method " + face + " bears a public name");
            }
        }
        for (Field field : TwinGraphs.class.getDeclaredFields()) {
            check(isPrivate(field), "the field " + field.getName() + " is not private");
        }
        check(seen.equals(FACE), "the face is " + seen + ", due is " + new TreeSet<>(FACE));
        int kind = TwinGraphs.class.getModifiers();
        check(Modifier.isPublic(kind) && Modifier.isFinal(kind), "the class is not public and final");
        System.out.println(wrong == 0 ? "the face is as due" : wrong + " faults in the face");
        if (wrong != 0) {
            System.exit(1);
        }
    }

    private static void check(boolean holds, String fault) {
        if (!holds) {
            wrong++;
            System.out.println(fault);
        }
    }

    private static boolean isPrivate(Member member) {
        return Modifier.isPrivate(member.getModifiers());
    }

    private static boolean isPublic(Member member) {
        return Modifier.isPublic(member.getModifiers());
    }

    private static boolean isPublicName(String name) {
        return FACE.stream().anyMatch(face -> face.contains(" " + name + "("));
    }

    private static String types(Class<?>[] parameters) {
        StringBuilder text = new StringBuilder("(");
        for (Class<?> parameter : parameters) {
            text.append(text.length() > 1 ? "," : "").append(parameter.getName());
        }
        return text.append(")").toString();
    }
}
