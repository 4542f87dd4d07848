import java.lang.reflect.Constructor;
import java.lang.reflect.Field;
import java.lang.reflect.Method;
import java.lang.reflect.Modifier;
import java.util.HashMap;
import java.util.HashSet;
import java.util.Map;
import java.util.Set;

/** The public face of the document, and those of the rules of LANGUAGE.md that a compiled class shows. */
public final class FaceTest {
    private static final String[] FACE = {
        "int tell int int", "int unsay int", "int drop", "int commit", "int join int int", "int part",
        "int single int boolean", "int rule int int int", "int unrule", "int pattern int", "int not int",
        "int clear", "int ofFact int int", "boolean told int int", "int past int", "int answers", "int answer int",
        "int size int", "long bound", "int chain int int int", "java.lang.String why int", "int store int",
        "int broken", "int lost int", "boolean isSound", "long digest"};

    public static void main(String[] args) {
        Class<?> face = Factloom.class;
        Check.due("public final", Modifier.PUBLIC | Modifier.FINAL, face.getModifiers());
        Set<String> names = publicMethods(face);
        noOtherMembers(face, names);
        Class<?>[] inside = face.getDeclaredClasses();
        Check.due("at most twelve classes", true, inside.length + 1 <= 12);
        for (Class<?> one : inside) {
            Check.due(one + " is static", true, Modifier.isStatic(one.getModifiers()));
            Check.due(one + " is not public", false, Modifier.isPublic(one.getModifiers()));
            for (Method method : one.getDeclaredMethods()) {
                Check.due(method + " has no public name", false, names.contains(method.getName()));
            }
            shape(one);
        }
        shape(face);
        Check.end();
    }

    private static Set<String> publicMethods(Class<?> face) {
        Map<String, String> found = new HashMap<>();
        Set<String> names = new HashSet<>();
        for (Method method : face.getDeclaredMethods()) {
            if (Modifier.isPublic(method.getModifiers())) {
                StringBuilder text = new StringBuilder(method.getReturnType().getName());
                text.append(' ').append(method.getName());
                for (Class<?> type : method.getParameterTypes()) {
                    text.append(' ').append(type.getName());
                }
                found.put(text.toString(), method.getName());
                names.add(method.getName());
            }
        }
        for (String due : FACE) {
            Check.due("is public: " + due, true, found.containsKey(due));
        }
        Check.due("no other public methods", FACE.length, found.size());
        return names;
    }

    private static void noOtherMembers(Class<?> face, Set<String> names) {
        Constructor<?>[] constructors = face.getDeclaredConstructors();
        Check.due("one constructor", 1, constructors.length);
        Check.due("without parameters", 0, constructors[0].getParameterCount());
        Check.due("public", true, Modifier.isPublic(constructors[0].getModifiers()));
        for (Field field : face.getDeclaredFields()) {
            Check.due(field + " is private", true, Modifier.isPrivate(field.getModifiers()));
        }
        for (Method method : face.getDeclaredMethods()) {
            if (!Modifier.isPublic(method.getModifiers()) && !method.isSynthetic()) {
                Check.due(method + " is private", true, Modifier.isPrivate(method.getModifiers()));
                Check.due(method + " has a name of its own", false, names.contains(method.getName()));
            }
        }
    }

    private static void shape(Class<?> one) {
        int fields = 0;
        for (Field field : one.getDeclaredFields()) {
            boolean isStatic = Modifier.isStatic(field.getModifiers());
            Check.due(field + " is final, if static", true, !isStatic || Modifier.isFinal(field.getModifiers()));
            fields += isStatic ? 0 : 1;
        }
        Check.due(one + " has at most twenty fields", true, fields <= 20);
        for (Method method : one.getDeclaredMethods()) {
            Check.due(method + " has at most seven parameters", true, method.getParameterCount() <= 7);
            boolean isOfObject = Set.of("equals", "hashCode", "toString", "finalize").contains(method.getName());
            Check.due(method + " has a name of its own", false, isOfObject);
        }
    }
}
