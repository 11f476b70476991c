import java.lang.reflect.Constructor;
import java.lang.reflect.Field;
import java.lang.reflect.Method;
import java.lang.reflect.Modifier;
import java.util.Arrays;
import java.util.Set;
import java.util.TreeSet;

/** The class has the document's face and nothing beside it (LANGUAGE.md, rules 1, 5 and 11). */
public final class FaceTest {
    private static final String[] FACE = {
        "boolean cell(int,int,int) ArrayIndexOutOfBoundsException",
        "boolean even()",
        "boolean home()",
        "boolean join(int,int) ArrayIndexOutOfBoundsException",
        "boolean shift(int) ArrayIndexOutOfBoundsException",
        "boolean swap(int,int) ArrayIndexOutOfBoundsException",
        "boolean wall(int,int,boolean) ArrayIndexOutOfBoundsException",
        "int block(int) IllegalArgumentException",
        "int goal(int,int,int) ArrayIndexOutOfBoundsException",
        "int kindGoal(int,int,int) ArrayIndexOutOfBoundsException IllegalArgumentException",
        "int noGoals()",
        "int node()",
        "int open()",
        "int parity()",
        "int picture(int)",
        "int place(int) ArrayIndexOutOfBoundsException",
        "int reach()",
        "int search(int,int)",
        "int slide(int,int,int) ArrayIndexOutOfBoundsException",
        "int states()",
        "int step(int)",
        "int tile(int) ArrayIndexOutOfBoundsException",
        "int ways()",
    };

    public static void main(String[] args) {
        Checks checks = new Checks();
        Class<?> face = SlideBoards.class;
        checks.same("public and final", face.getModifiers(), Modifier.PUBLIC | Modifier.FINAL);
        Constructor<?>[] constructors = face.getDeclaredConstructors();
        checks.same("constructors", constructors.length, 1);
        checks.same("constructor", constructors[0].toString().equals("public SlideBoards(int,int)"), true);

        Set<String> seen = new TreeSet<>();
        Set<String> publicNames = new TreeSet<>();
        for (Method method : face.getDeclaredMethods()) {
            if (!Modifier.isPrivate(method.getModifiers())) {
                checks.same(method + " is public", method.getModifiers(), Modifier.PUBLIC);
                seen.add(signatureOf(method));
                publicNames.add(method.getName());
            }
        }
        checks.same("face " + seen, seen.equals(new TreeSet<>(Arrays.asList(FACE))), true);

        checkMembers(checks, face, publicNames);
        for (Class<?> inside : face.getDeclaredClasses()) {
            checks.same(inside + " is static", Modifier.isStatic(inside.getModifiers()), true);
            checkMembers(checks, inside, publicNames);
        }
        checks.end();
    }

    private static void checkMembers(Checks checks, Class<?> owner, Set<String> publicNames) {
        int fields = 0;
        for (Field field : owner.getDeclaredFields()) {
            int modifiers = field.getModifiers();
            checks.same(field + " is private", Modifier.isPrivate(modifiers), true);
            if (Modifier.isStatic(modifiers)) {
                checks.same(field + " is final", Modifier.isFinal(modifiers), true);
            } else {
                fields++;
            }
        }
        checks.same(owner + " has few fields", fields <= 20, true);
        for (Method method : owner.getDeclaredMethods()) {
            checks.same(method + " takes few parameters", method.getParameterCount() <= 7, true);
            if (Modifier.isPrivate(method.getModifiers())) {
                checks.same(method + " has a name of its own", publicNames.contains(method.getName()), false);
            }
        }
    }

    private static String signatureOf(Method method) {
        StringBuilder text = new StringBuilder();
        text.append(method.getReturnType().getName()).append(' ').append(method.getName()).append('(');
        String comma = "";
        for (Class<?> type : method.getParameterTypes()) {
            text.append(comma).append(type.getName());
            comma = ",";
        }
        text.append(')');
        Class<?>[] thrown = method.getExceptionTypes();
        String[] names = new String[thrown.length];
        for (int i = 0; i < thrown.length; i++) {
            names[i] = thrown[i].getSimpleName();
        }
        Arrays.sort(names);
        for (String name : names) {
            text.append(' ').append(name);
        }
        return text.toString();
    }
}
