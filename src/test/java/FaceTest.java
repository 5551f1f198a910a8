import java.lang.reflect.Field;
import java.lang.reflect.Member;
import java.lang.reflect.Method;
import java.lang.reflect.Modifier;
import java.util.Arrays;
import java.util.Set;
import java.util.TreeSet;

/** The public face, and that nothing stands in it beside what the document names. */
public final class FaceTest {
    private FaceTest() {
    }

    public static void main(String[] args) {
        Check.due("BAD_ARG", HeapGames.BAD_ARG, -1);
        Check.due("NONE", HeapGames.NONE, -4);
        Class<?> type = HeapGames.class;
        Check.due("modifiers", type.getModifiers(), Modifier.PUBLIC | Modifier.FINAL);
        Check.due("nested classes", type.getDeclaredClasses().length, 0);
        Check.due("constructors", type.getDeclaredConstructors().length, 1);
        Check.due("public constructors", type.getConstructors().length, 1);
        same("methods", methods(type), Set.of("heap 2", "has 1", "won 1", "moves 1", "winning 1",
            "winningMove 2", "value 1", "play 2"));
        same("fields", fields(type), Set.of("BAD_ARG", "NONE"));
        Check.finish();
    }

    private static boolean isSeen(Member member) {
        return !Modifier.isPrivate(member.getModifiers()) && !member.isSynthetic();
    }

    private static Set<String> methods(Class<?> type) {
        Set<String> seen = new TreeSet<>();
        for (Method method : type.getDeclaredMethods()) {
            if (isSeen(method)) {
                seen.add(method.getName() + " " + method.getParameterCount());
                Check.due(method + ", modifiers", method.getModifiers(), Modifier.PUBLIC);
                Check.due(method + ", of int alone", method.getReturnType() == int.class
                    && Arrays.stream(method.getParameterTypes()).allMatch(t -> t == int.class) ? 1 : 0, 1);
            }
        }
        return seen;
    }

    private static Set<String> fields(Class<?> type) {
        Set<String> seen = new TreeSet<>();
        for (Field field : type.getDeclaredFields()) {
            if (isSeen(field)) {
                seen.add(field.getName());
                Check.due(field + ", modifiers", field.getModifiers(),
                    Modifier.PUBLIC | Modifier.STATIC | Modifier.FINAL);
            }
        }
        return seen;
    }

    private static void same(String what, Set<String> got, Set<String> want) {
        Check.due(what + " " + got + " as " + new TreeSet<>(want), got.equals(want) ? 1 : 0, 1);
    }
}
