import java.lang.reflect.Constructor;
import java.lang.reflect.Field;
import java.lang.reflect.Method;
import java.lang.reflect.Modifier;
import java.util.Arrays;

/** The class has the document's face, and no other member that can be seen from outside. */
public final class FaceTest {
    private static final String[] METHODS = {
        "about(int) int", "fault(int) int", "feed(int,int,int,int,int) int", "find() int", "found(int,int) int",
        "json(int) int", "number(int) long", "out(int) int", "path(int) int", "query(int) int", "text(int) int",
    };

    public static void main(String[] args) {
        Bench bench = new Bench();
        bench.due("the class", Modifier.toString(PathHouse.class.getModifiers()), "public final");
        bench.due("the methods", String.join(" ", seenMethods()), String.join(" ", METHODS));
        bench.due("the constants", String.join(" ", seenFields()), "MANY NONE TIRED");
        Constructor<?>[] made = PathHouse.class.getDeclaredConstructors();
        bench.due("constructors", made.length, 1);
        bench.due("the constructor", made[0].toString(), "public PathHouse()");
        dueInside(bench);
        bench.end();
    }

    private static String[] seenMethods() {
        return Arrays.stream(PathHouse.class.getDeclaredMethods())
                .filter(m -> !Modifier.isPrivate(m.getModifiers()))
                .map(FaceTest::told).sorted().toArray(String[]::new);
    }

    private static String told(Method m) {
        StringBuilder all = new StringBuilder(m.getName()).append('(');
        for (int i = 0; i < m.getParameterTypes().length; i++) {
            all.append(i == 0 ? "" : ",").append(m.getParameterTypes()[i].getName());
        }
        return all.append(") ").append(m.getReturnType().getName()).toString();
    }

    private static String[] seenFields() {
        return Arrays.stream(PathHouse.class.getDeclaredFields())
                .filter(f -> !Modifier.isPrivate(f.getModifiers()))
                .map(Field::getName).sorted().toArray(String[]::new);
    }

    private static void dueInside(Bench bench) {
        for (Class<?> inside : PathHouse.class.getDeclaredClasses()) {
            int how = inside.getModifiers();
            bench.due(inside.getName() + " is static", Modifier.isStatic(how) ? 1 : 0, 1);
            bench.due(inside.getName() + " is hidden", Modifier.isPublic(how) || Modifier.isProtected(how) ? 0 : 1, 1);
        }
        bench.due("at most twelve classes", PathHouse.class.getDeclaredClasses().length + 1 <= 12 ? 1 : 0, 1);
    }
}
