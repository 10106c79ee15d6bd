import java.lang.reflect.Constructor;
import java.lang.reflect.Field;
import java.lang.reflect.Method;
import java.lang.reflect.Modifier;
import java.util.ArrayList;
import java.util.Arrays;
import java.util.HashSet;
import java.util.List;
import java.util.Set;
import java.util.TreeSet;

/** The face is the document's, and nothing else of the class is seen from outside (LANGUAGE.md, 1, 2, 5, 11). */
public final class FaceTest {
    private static final String[] FACE = {
        "input():int throws UnsupportedOperationException",
        "and(int,int):int throws IndexOutOfBoundsException,IllegalArgumentException,UnsupportedOperationException",
        "output(int):int throws IndexOutOfBoundsException,IllegalArgumentException,UnsupportedOperationException",
        "outputAt(int):int throws IndexOutOfBoundsException",
        "latch(int):int throws IllegalArgumentException,UnsupportedOperationException",
        "next(int,int):boolean throws IndexOutOfBoundsException,IllegalArgumentException",
        "nextOf(int):int throws IndexOutOfBoundsException,IllegalArgumentException",
        "box(int,int):int throws IllegalArgumentException,UnsupportedOperationException",
        "replace(int,int):int throws IndexOutOfBoundsException,IllegalArgumentException",
        "sweep():int",
        "undo():boolean",
        "simulate(long):int",
        "row(int):long throws IndexOutOfBoundsException,IllegalStateException,IllegalArgumentException",
        "level(int):int throws IndexOutOfBoundsException,IllegalArgumentException",
        "fan(int):int throws IndexOutOfBoundsException,IllegalArgumentException",
        "node(int,int):int throws IndexOutOfBoundsException,IllegalArgumentException",
        "size():int",
        "count(int):int throws IllegalArgumentException",
    };

    private static final Check check = new Check();

    public static void main(String[] args) {
        Class<?> it = InverterGraphs.class;
        check.due("public and final", Modifier.PUBLIC | Modifier.FINAL, it.getModifiers());
        methods(it);
        fields(it);
        Constructor<?>[] constructors = it.getDeclaredConstructors();
        check.due("constructors", 1, constructors.length);
        check.due("its modifiers", Modifier.PUBLIC, constructors[0].getModifiers());
        check.due("its parameters", 0, constructors[0].getParameterCount());
        inside(it);
        check.end();
    }

    private static void methods(Class<?> it) {
        Set<String> seen = new TreeSet<>();
        Set<String> faceNames = new HashSet<>();
        List<String> otherNames = new ArrayList<>();
        for (Method method : it.getDeclaredMethods()) {
            if (Modifier.isPublic(method.getModifiers())) {
                seen.add(told(method));
                faceNames.add(method.getName());
                check.due(method + " is public alone", Modifier.PUBLIC, method.getModifiers());
            } else {
                otherNames.add(method.getName());
                check.due(method + " is private", true, Modifier.isPrivate(method.getModifiers()));
            }
        }
        for (Class<?> inner : it.getDeclaredClasses()) {
            for (Method method : inner.getDeclaredMethods()) {
                otherNames.add(method.getName());
            }
        }
        check.due("the face", new TreeSet<>(Arrays.asList(FACE)).toString(), seen.toString());
        for (String name : otherNames) {
            check.due(name + " is a name of the face", false, faceNames.contains(name));
        }
    }

    private static String told(Method method) {
        return method.getName() + "(" + names(method.getParameterTypes()) + "):" + method.getReturnType().getSimpleName()
            + (method.getExceptionTypes().length == 0 ? "" : " throws " + names(method.getExceptionTypes()));
    }

    private static String names(Class<?>[] types) {
        List<String> names = new ArrayList<>();
        for (Class<?> type : types) {
            names.add(type.getSimpleName());
        }
        return String.join(",", names);
    }

    private static void fields(Class<?> it) {
        for (Field field : it.getDeclaredFields()) {
            boolean isFace = field.getName().equals("NONE");
            int kept = field.getModifiers() & (Modifier.PUBLIC | Modifier.PROTECTED | Modifier.PRIVATE);
            check.due(field + " is seen", isFace ? Modifier.PUBLIC : Modifier.PRIVATE, kept);
            staticIsFinal(field);
        }
        check.due("NONE", -1, InverterGraphs.NONE);
    }

    private static void inside(Class<?> it) {
        check.due("some twelve classes at most", true, it.getDeclaredClasses().length < 12);
        for (Class<?> inner : it.getDeclaredClasses()) {
            check.due(inner + " is static", true, Modifier.isStatic(inner.getModifiers()));
            check.due(inner + " is hidden", false, Modifier.isPublic(inner.getModifiers()));
            check.due(inner + " has twenty fields at most", true, inner.getDeclaredFields().length <= 20);
            for (Field field : inner.getDeclaredFields()) {
                staticIsFinal(field);
            }
        }
    }

    private static void staticIsFinal(Field field) {
        if (Modifier.isStatic(field.getModifiers())) {
            check.due(field + " is final", true, Modifier.isFinal(field.getModifiers()));
        }
    }
}
