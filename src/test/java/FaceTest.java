import java.lang.reflect.Constructor;
import java.lang.reflect.Field;
import java.lang.reflect.Method;
import java.lang.reflect.Modifier;
import java.util.ArrayList;
import java.util.List;
import java.util.TreeSet;

/** The face is the document's, and nothing more. */
final class FaceTest {
    private static final String METHODS = "coat(int,int,int) thing(int,int) where(int) told(int,int) of(int,int)"
        + " hole(int,int) type(long,int) school() day() count(int) put(int,int) take(int,int) search(int)"
        + " give(int,int) bell() reach(int,int,int) soonest(int,int,int,int) dealt(int,int,int,int) wore(int,int)"
        + " owe(int,int,int) balance(int) payments() seed(int) image() restore() owes(int,int,int,int)"
        + " film(int,int,int) sheet(int,int,int) drop(int) item(int,int,int,int) copy(int,int,int,int,int)";

    public static void main(String[] args) throws IllegalAccessException {
        methods();
        constants();
        constructors();
        nested();
        Due.end();
    }

    private static void methods() {
        TreeSet<String> want = new TreeSet<>(List.of(METHODS.split(" ")));
        TreeSet<String> got = new TreeSet<>();
        TreeSet<String> names = new TreeSet<>();
        for (String method : want) {
            names.add(method.substring(0, method.indexOf('(')));
        }
        for (Method method : CoatPockets.class.getDeclaredMethods()) {
            if (Modifier.isPrivate(method.getModifiers())) {
                Due.due("private " + method.getName() + " has a name of its own", !names.contains(method.getName()));
                continue;
            }
            List<String> parameters = new ArrayList<>();
            for (Class<?> type : method.getParameterTypes()) {
                parameters.add(type.getName());
            }
            got.add(method.getName() + "(" + String.join(",", parameters) + ")");
            Due.due(method.getName() + " is a public int", method.getModifiers() == Modifier.PUBLIC
                && method.getReturnType() == int.class);
        }
        Due.due("methods " + got, got.equals(want));
    }

    private static void constants() throws IllegalAccessException {
        TreeSet<String> got = new TreeSet<>();
        for (Field field : CoatPockets.class.getDeclaredFields()) {
            if (Modifier.isPrivate(field.getModifiers())) {
                Due.due(field.getName() + " is no static state", !Modifier.isStatic(field.getModifiers())
                    || Modifier.isFinal(field.getModifiers()));
                continue;
            }
            Due.due(field.getName() + " is a public constant", field.getModifiers()
                == (Modifier.PUBLIC | Modifier.STATIC | Modifier.FINAL) && field.getType() == int.class);
            got.add(field.getName() + field.getInt(null));
        }
        Due.due("constants " + got, got.equals(new TreeSet<>(List.of("BAD-1", "NOT-2", "FULL-3", "NONE-4", "NULL-11",
            "CAST-12", "INDEX-13", "SIZE-14"))));
    }

    private static void constructors() {
        Constructor<?>[] made = CoatPockets.class.getDeclaredConstructors();
        Due.due("one constructor", made.length, 1);
        Due.due("it is public", made[0].getModifiers(), Modifier.PUBLIC);
        Due.due("it takes nothing", made[0].getParameterCount(), 0);
        Due.due("the class is public and final", CoatPockets.class.getModifiers(), Modifier.PUBLIC | Modifier.FINAL);
    }

    private static void nested() {
        Class<?>[] inside = CoatPockets.class.getDeclaredClasses();
        Due.due("some twelve classes at most", inside.length < 12);
        for (Class<?> one : inside) {
            Due.due(one + " is static", Modifier.isStatic(one.getModifiers()));
            Due.due(one + " is not public", !Modifier.isPublic(one.getModifiers()));
            Due.due(one + " has some twenty fields at most", one.getDeclaredFields().length <= 20);
        }
    }
}
