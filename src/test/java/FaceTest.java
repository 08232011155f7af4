import java.lang.reflect.Constructor;
import java.lang.reflect.Executable;
import java.lang.reflect.Field;
import java.lang.reflect.Method;
import java.lang.reflect.Modifier;
import java.util.ArrayList;
import java.util.Arrays;
import java.util.Collections;
import java.util.List;

/** The public face is the document's, and nothing else is seen from outside. */
public final class FaceTest {
    private static final String[] FACE = {
        "int player(int) IllegalArgumentException IllegalStateException",
        "int rate(int int) IndexOutOfBoundsException IllegalArgumentException",
        "int team(int int int int) IndexOutOfBoundsException IllegalStateException",
        "int strength(int) IndexOutOfBoundsException",
        "void cup(int int) IllegalArgumentException",
        "int enter(int) IndexOutOfBoundsException IllegalStateException",
        "int noise(int)",
        "int draw() IllegalStateException",
        "int next(int) IllegalArgumentException",
        "int given(int) IllegalArgumentException",
        "int play(int int) IllegalArgumentException IllegalStateException",
        "int where(int) IndexOutOfBoundsException",
        "int row(int int) IllegalArgumentException",
        "int pony(int) IndexOutOfBoundsException IllegalStateException",
        "boolean lame(int int) IndexOutOfBoundsException IllegalArgumentException",
        "int told(int int) IndexOutOfBoundsException IllegalArgumentException",
        "int mount(int int int) IndexOutOfBoundsException IllegalArgumentException",
        "int afoot()",
        "int rest() IllegalStateException",
        "void ball(int int int int) IllegalArgumentException",
        "int rider(int int int int int) IllegalArgumentException IllegalStateException",
        "int right()",
        "int foul(int)",
        "int count(int)",
    };

    public static void main(String[] args) {
        Check check = new Check();
        List<String> seen = new ArrayList<>();
        for (Method method : PoloSeason.class.getDeclaredMethods()) {
            if (!Modifier.isPrivate(method.getModifiers())) {
                seen.add(told(method));
            }
        }
        List<String> due = new ArrayList<>(Arrays.asList(FACE));
        Collections.sort(seen);
        Collections.sort(due);
        check.yes("methods " + seen + " are " + due, seen.equals(due));
        for (Field field : PoloSeason.class.getDeclaredFields()) {
            boolean isPrivate = Modifier.isPrivate(field.getModifiers());
            check.yes("only NONE is seen: " + field.getName(), isPrivate != field.getName().equals("NONE"));
        }
        namesApart(check, PoloSeason.class);
        fewFields(check, PoloSeason.class);
        for (Class<?> inside : PoloSeason.class.getDeclaredClasses()) {
            int modifiers = inside.getModifiers();
            check.yes(inside + " is static and not public", Modifier.isStatic(modifiers) && !Modifier.isPublic(modifiers));
            namesApart(check, inside);
            fewFields(check, inside);
        }
        Constructor<?>[] constructors = PoloSeason.class.getDeclaredConstructors();
        check.same("constructors", constructors.length, 1);
        check.same("parameters of the constructor", constructors[0].getParameterCount(), 0);
        check.yes("the constructor is public", Modifier.isPublic(constructors[0].getModifiers()));
        check.same("NONE", PoloSeason.NONE, -1);
        check.yes("public final", PoloSeason.class.getModifiers() == (Modifier.PUBLIC | Modifier.FINAL));
        check.finish("FaceTest");
    }

    private static void namesApart(Check check, Class<?> part) {
        for (Method method : part.getDeclaredMethods()) {
            for (String face : FACE) {
                boolean same = face.contains(" " + method.getName() + "(");
                check.yes("only the face's method bears its name: " + method, !same || Modifier.isPublic(method.getModifiers()));
            }
        }
    }

    /** Static fields are constants of int here; beside these a class has some twenty fields at most. */
    private static void fewFields(Check check, Class<?> part) {
        int fields = 0;
        for (Field field : part.getDeclaredFields()) {
            if (!Modifier.isStatic(field.getModifiers())) {
                fields++;
                continue;
            }
            check.yes(field + " is a constant", Modifier.isFinal(field.getModifiers()) && field.getType() == int.class);
        }
        check.yes(part + " has " + fields + " fields", fields <= 20);
    }

    private static String told(Method method) {
        StringBuilder text = new StringBuilder(method.getReturnType().getSimpleName());
        text.append(' ').append(method.getName()).append('(').append(names(method.getParameterTypes())).append(')');
        String thrown = names(((Executable) method).getExceptionTypes());
        return thrown.isEmpty() ? text.toString() : text.append(' ').append(thrown).toString();
    }

    private static String names(Class<?>[] types) {
        List<String> names = new ArrayList<>();
        for (Class<?> type : types) {
            names.add(type.getSimpleName());
        }
        return String.join(" ", names);
    }
}
