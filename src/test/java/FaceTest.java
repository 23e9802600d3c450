import java.lang.reflect.Constructor;
import java.lang.reflect.Field;
import java.lang.reflect.Method;
import java.lang.reflect.Modifier;
import java.util.Set;
import java.util.TreeSet;

/** The class shows the document's face and nothing else, and 512 calls make next to no objects. */
public final class FaceTest {
    private static final String ARGUMENT = " throws IllegalArgumentException";
    private static final String BOTH = ARGUMENT + " IllegalStateException";
    private static final String INDEX = " throws IndexOutOfBoundsException";
    private static final Set<String> FACE = Set.of(
            "int atom(int)" + BOTH, "int place(int)" + BOTH, "int pair(int,int)" + BOTH,
            "int relate(boolean,int,int)" + BOTH, "int combine(boolean,int,int)" + BOTH,
            "int call(int,int,int,int)" + BOTH, "void define(int,int)" + ARGUMENT, "void ask(int)" + ARGUMENT,
            "int run(int,boolean)" + BOTH, "int status()", "int count(int)" + INDEX, "int text(int,int,int)" + INDEX,
            "int conditions(int)" + INDEX);

    private FaceTest() {
    }

    private static String written(Method method) {
        StringBuilder text = new StringBuilder();
        text.append(method.getReturnType()).append(' ').append(method.getName()).append('(');
        String between = "";
        for (Class<?> type : method.getParameterTypes()) {
            text.append(between).append(type);
            between = ",";
        }
        text.append(')');
        String before = " throws ";
        for (Class<?> type : method.getExceptionTypes()) {
            text.append(before).append(type.getSimpleName());
            before = " ";
        }
        return text.toString();
    }

    private static void face() {
        Set<String> shown = new TreeSet<>();
        Set<String> hidden = new TreeSet<>();
        for (Method method : RelationStream.class.getDeclaredMethods()) {
            if (Modifier.isPrivate(method.getModifiers())) {
                hidden.add(method.getName());
            } else {
                shown.add(written(method));
                Check.due(method + " is public and not static",
                        method.getModifiers() & (Modifier.PUBLIC | Modifier.STATIC), Modifier.PUBLIC);
            }
        }
        Check.due("the methods are the face: " + shown, shown.equals(FACE) ? 1 : 0, 1);
        for (Method method : RelationStream.class.getMethods()) {
            Check.due("no private method is called " + method.getName(), hidden.contains(method.getName()) ? 1 : 0, 0);
        }
        for (Field field : RelationStream.class.getDeclaredFields()) {
            Check.due(field + " is private", Modifier.isPrivate(field.getModifiers()) ? 1 : 0, 1);
            Check.due(field + " is final", Modifier.isFinal(field.getModifiers()) ? 1 : 0, 1);
            boolean isConstant = Modifier.isStatic(field.getModifiers());
            Check.due(field + " is a constant of int or belongs to the object",
                    !isConstant || field.getType() == int.class ? 1 : 0, 1);
        }
        Constructor<?>[] constructors = RelationStream.class.getDeclaredConstructors();
        Check.due("constructors", constructors.length, 1);
        Check.due("it is public", Modifier.isPublic(constructors[0].getModifiers()) ? 1 : 0, 1);
        Check.due("the class is public and final",
                RelationStream.class.getModifiers() & (Modifier.PUBLIC | Modifier.FINAL),
                Modifier.PUBLIC | Modifier.FINAL);
    }

    private static void insideClasses() {
        Class<?>[] inside = RelationStream.class.getDeclaredClasses();
        Check.due("at most eleven classes inside", inside.length <= 11 ? 1 : 0, 1);
        for (Class<?> one : inside) {
            Check.due(one + " is static", Modifier.isStatic(one.getModifiers()) ? 1 : 0, 1);
            Check.due(one + " is not public or protected",
                    one.getModifiers() & (Modifier.PUBLIC | Modifier.PROTECTED), 0);
            Check.due(one + " has at most twenty fields", one.getDeclaredFields().length <= 20 ? 1 : 0, 1);
            for (Field field : one.getDeclaredFields()) {
                Check.due(field + " is not static", Modifier.isStatic(field.getModifiers()) ? 1 : 0, 0);
            }
            for (Method method : one.getDeclaredMethods()) {
                Check.due(method + " takes at most seven", method.getParameterCount() <= 7 ? 1 : 0, 1);
            }
        }
    }

    private static long allocated() {
        return ((com.sun.management.ThreadMXBean) java.lang.management.ManagementFactory.getThreadMXBean())
                .getThreadAllocatedBytes(Thread.currentThread().getId());
    }

    private static void askAndRunOften(RelationStream x, int goal) {
        for (int i = 0; i < 128; i++) {
            x.ask(goal);
            x.run(200, false);
            x.text(0, 0, 0);
            x.count(5);
        }
    }

    /** All calls of a run live in one room, so that questions use the rows of those before them. */
    private static void room() {
        RelationStream x = new RelationStream();
        x.place(0);
        x.atom(1);
        int apart = x.relate(false, 0, 1);
        int goal = x.combine(false, x.call(0, 0, 0, 0), x.combine(true, apart, x.relate(true, 1, 1)));
        x.define(0, goal);
        askAndRunOften(x, goal);
        long before = allocated();
        askAndRunOften(x, goal);
        long made = allocated() - before;
        Check.due("bytes for 512 calls are few: " + made, made < 4096 ? 1 : 0, 1);
        before = allocated();
        RelationStream other = new RelationStream();
        made = allocated() - before;
        Check.due("bytes for an object are few: " + made, made < 100_000 ? 1 : 0, 1);
        Check.due("a new object has no question", other.status(), 0);
    }

    public static void main(String[] args) {
        face();
        insideClasses();
        room();
        Check.end();
    }
}
