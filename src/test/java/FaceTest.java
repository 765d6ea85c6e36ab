import java.lang.reflect.Constructor;
import java.lang.reflect.Field;
import java.lang.reflect.Method;
import java.lang.reflect.Modifier;
import java.util.Arrays;
import java.util.Set;
import java.util.TreeSet;

/** The face of the class is that of the document, no more and no less. */
public final class FaceTest {
    private static final String NO_STATE = " throws IndexOutOfBoundsException";
    private static final String NO_ARGUMENT = " throws IllegalArgumentException";
    private static final String EITHER = " throws IllegalArgumentException IndexOutOfBoundsException";

    private static final String[] METHODS = {
        "void begin(int,int)" + NO_ARGUMENT,
        "int lead(int,int,int)" + NO_STATE,
        "void swap(int,int,int)" + NO_STATE,
        "int pay(int,int)" + EITHER,
        "int colour(int,int)" + EITHER,
        "int weight(int,int)" + NO_STATE,
        "long words(int)" + NO_ARGUMENT,
        "long law(int,int,int)" + EITHER,
        "long lawAnew(int,int,int)" + EITHER,
        "long distance(int,int,int)" + EITHER,
        "int mixing(int)" + NO_ARGUMENT,
        "long apart(int,int,int)" + EITHER,
        "long together(int,int)" + EITHER,
        "long hits(int,int,int)" + EITHER,
        "int reach(int)" + NO_STATE,
        "int closed()",
        "int period(int)" + NO_STATE,
        "long rest(int)" + NO_STATE,
        "float share(int) throws IllegalStateException IndexOutOfBoundsException",
        "int ranked(int)" + NO_STATE,
        "int walk(int,int,int)" + EITHER,
        "int draw(int)" + NO_ARGUMENT,
        "long drift(int)" + NO_STATE,
        "boolean isFair()",
        "long best(int,int)" + EITHER,
        "boolean stops(int,int)" + EITHER,
        "boolean reverses()",
        "boolean isLumped()",
    };

    public static void main(String[] args) {
        checkClass();
        checkMethods();
        checkFields();
        checkNames();
        checkNested();
        Check.end();
    }

    private static void checkClass() {
        int modifiers = ChanceHall.class.getModifiers();
        Check.due("the class is public and final", modifiers, Modifier.PUBLIC | Modifier.FINAL);
        Check.due("NONE", ChanceHall.NONE, -1);
        Constructor<?>[] constructors = ChanceHall.class.getDeclaredConstructors();
        Check.due("constructors", constructors.length, 1);
        Check.due("constructor's modifiers", constructors[0].getModifiers(), Modifier.PUBLIC);
        Check.due("constructor's parameters", constructors[0].getParameterCount(), 0);
    }

    private static void checkMethods() {
        Set<String> due = new TreeSet<>(Arrays.asList(METHODS));
        Set<String> got = new TreeSet<>();
        for (Method method : ChanceHall.class.getDeclaredMethods()) {
            if (!Modifier.isPrivate(method.getModifiers())) {
                got.add(textOf(method));
                Check.due(method + " is public alone", method.getModifiers(), Modifier.PUBLIC);
            }
        }
        if (!due.equals(got)) {
            Check.say("the face is " + got + ", due is " + due);
        }
    }

    private static String textOf(Method method) {
        StringBuilder text = new StringBuilder();
        text.append(method.getReturnType().getName()).append(' ').append(method.getName()).append('(');
        Class<?>[] parameters = method.getParameterTypes();
        for (int i = 0; i < parameters.length; i++) {
            text.append(i == 0 ? "" : ",").append(parameters[i].getName());
        }
        text.append(')');
        Set<String> thrown = new TreeSet<>();
        for (Class<?> type : method.getExceptionTypes()) {
            thrown.add(type.getSimpleName());
        }
        if (!thrown.isEmpty()) {
            text.append(" throws ").append(String.join(" ", thrown));
        }
        return text.toString();
    }

    private static void checkFields() {
        for (Field field : ChanceHall.class.getDeclaredFields()) {
            boolean isPublic = Modifier.isPublic(field.getModifiers());
            Check.due(field + " is of the face", isPublic, field.getName().equals("NONE"));
            if (!isPublic) {
                Check.due(field + " is private", Modifier.isPrivate(field.getModifiers()), true);
            }
        }
    }

    private static void checkNames() {
        Set<String> names = new TreeSet<>();
        for (String method : METHODS) {
            names.add(method.substring(method.indexOf(' ') + 1, method.indexOf('(')));
        }
        for (Method method : ChanceHall.class.getDeclaredMethods()) {
            if (Modifier.isPrivate(method.getModifiers())) {
                Check.due(method + " bears a public name", names.contains(method.getName()), false);
            }
        }
    }

    private static void checkNested() {
        Class<?>[] nested = ChanceHall.class.getDeclaredClasses();
        Check.due("at most twelve classes", nested.length <= 11, true);
        for (Class<?> inside : nested) {
            int modifiers = inside.getModifiers();
            Check.due(inside + " is static", Modifier.isStatic(modifiers), true);
            Check.due(inside + " is hidden", Modifier.isPublic(modifiers) || Modifier.isProtected(modifiers), false);
            Check.due(inside + " has few fields", inside.getDeclaredFields().length <= 20, true);
            for (Field field : inside.getDeclaredFields()) {
                int of = field.getModifiers();
                Check.due(field + " is no static state", Modifier.isStatic(of) && !Modifier.isFinal(of), false);
            }
        }
    }
}
