import java.lang.reflect.Constructor;
import java.lang.reflect.Field;
import java.lang.reflect.Method;
import java.lang.reflect.Modifier;
import java.util.Set;
import java.util.TreeSet;

/** The public face is the document's, and nothing else can be seen from outside. */
final class FaceTest {
    private static final Set<String> CALLS = Set.of(
        "int set(int,int)", "int told(int)", "int put(int,int,int,int,int)", "long get(int,int)",
        "int drop(int,int)", "int pin(int,int,boolean)", "int of(int,int,int)", "int key(int,int)",
        "int gone(int)", "int victim(int)", "int feed(int)", "int trace()", "int run(int)", "int would(int,int)",
        "int need(int,int)", "long odds(int,int,int)", "long mean(int,int)", "int book(int,int,int)",
        "int looked()", "int judge(int,int)", "int image()", "int undo()", "int count(int)",
        "int tape(int,int,int)", "int item(int,int,long)", "long read(int,int)", "int shift(int,int,int,int,int)");

    private FaceTest() {
    }

    public static void main(String[] args) throws IllegalAccessException {
        Set<String> seen = new TreeSet<>();
        for (Method method : SegmentedCache.class.getDeclaredMethods()) {
            if (Modifier.isPublic(method.getModifiers())) {
                seen.add(told(method));
            } else {
                Script.check(method + " is private", method.getModifiers() & Modifier.PRIVATE, Modifier.PRIVATE);
            }
        }
        Script.check("the calls " + seen, seen.equals(CALLS) ? 1 : 0, 1);
        Constructor<?>[] constructors = SegmentedCache.class.getDeclaredConstructors();
        Script.check("constructors", constructors.length, 1);
        Script.check("the constructor is public", constructors[0].getModifiers(), Modifier.PUBLIC);
        Script.check("it takes nothing", constructors[0].getParameterCount(), 0);
        Script.check("the class", SegmentedCache.class.getModifiers(), Modifier.PUBLIC | Modifier.FINAL);
        fields();
        for (Class<?> inside : SegmentedCache.class.getDeclaredClasses()) {
            Script.check(inside + " is static", inside.getModifiers() & Modifier.STATIC, Modifier.STATIC);
            Script.check(inside + " isn't public", inside.getModifiers() & Modifier.PUBLIC, 0);
            names(inside);
            statics(inside);
        }
        names(SegmentedCache.class);
        statics(SegmentedCache.class);
        Script.end();
    }

    /** None that isn't public bears the name of a public one. */
    private static void names(Class<?> type) {
        for (Method method : type.getDeclaredMethods()) {
            boolean isOfFace = CALLS.stream().anyMatch(call -> call.contains(" " + method.getName() + "("));
            boolean isPublic = Modifier.isPublic(method.getModifiers());
            Script.check(method + " has a name of its own", isOfFace && !isPublic ? 1 : 0, 0);
        }
    }

    /** Nothing is kept between objects: static fields are constants of a few types. */
    private static void statics(Class<?> type) {
        Set<Class<?>> due = Set.of(int.class, long.class, boolean.class, char.class, String.class);
        for (Field field : type.getDeclaredFields()) {
            if (Modifier.isStatic(field.getModifiers())) {
                boolean isFinal = Modifier.isFinal(field.getModifiers());
                Script.check(field + " is a constant", isFinal && due.contains(field.getType()) ? 1 : 0, 1);
            }
        }
    }

    private static String told(Method method) {
        StringBuilder line = new StringBuilder();
        line.append(method.getReturnType()).append(' ').append(method.getName()).append('(');
        for (Class<?> type : method.getParameterTypes()) {
            line.append(line.charAt(line.length() - 1) == '(' ? "" : ",").append(type);
        }
        return line.append(')').toString();
    }

    private static void fields() throws IllegalAccessException {
        Set<String> seen = new TreeSet<>();
        for (Field field : SegmentedCache.class.getDeclaredFields()) {
            if (Modifier.isPrivate(field.getModifiers())) {
                continue;
            }
            Script.check(field + " is public static final", field.getModifiers(),
                Modifier.PUBLIC | Modifier.STATIC | Modifier.FINAL);
            seen.add(field.getType() + " " + field.getName() + " " + field.get(null));
        }
        Set<String> due = Set.of("int NONE -1", "int BAD -2", "int STATE -3", "int FULL -4",
            "long NO " + Long.MIN_VALUE);
        Script.check("the constants " + seen, seen.equals(due) ? 1 : 0, 1);
    }
}
