import java.lang.reflect.Constructor;
import java.lang.reflect.Field;
import java.lang.reflect.Method;
import java.lang.reflect.Modifier;
import java.util.ArrayList;
import java.util.Arrays;
import java.util.Comparator;
import java.util.List;

/** The public face of the class, and that it has no other member that can be seen. */
public final class FaceTest {
    private static final String[] FACE = {
        "int riddle(int) IllegalArgumentException IllegalStateException",
        "int clue(int,char,int,int,int) IndexOutOfBoundsException IllegalArgumentException"
            + " UnsupportedOperationException IllegalStateException",
        "int answers(int) IndexOutOfBoundsException",
        "int answer(int,int) IndexOutOfBoundsException NoSuchElementException",
        "char prove(int) IndexOutOfBoundsException UnsupportedOperationException",
        "int steps(int) IndexOutOfBoundsException NoSuchElementException",
        "int ruleAt(int,int) IndexOutOfBoundsException NoSuchElementException",
        "int causeAt(int,int) IndexOutOfBoundsException NoSuchElementException",
        "int takenAt(int,int) IndexOutOfBoundsException NoSuchElementException",
        "boolean leansOn(int,int) IndexOutOfBoundsException",
        "char state(int) IndexOutOfBoundsException",
        "int rule(char,char,boolean,int) IllegalArgumentException IllegalStateException",
        "boolean stands(int) IndexOutOfBoundsException",
        "int counterexample(int) IndexOutOfBoundsException NoSuchElementException",
        "int fall(int) IndexOutOfBoundsException UnsupportedOperationException",
        "int issue() IllegalStateException",
        "int put(int,int) IndexOutOfBoundsException UnsupportedOperationException"
            + " IllegalStateException",
        "int publish(int,int) IndexOutOfBoundsException IllegalArgumentException"
            + " UnsupportedOperationException",
        "char issueState(int) IndexOutOfBoundsException",
        "int indexed(int) IndexOutOfBoundsException",
        "int customer() IllegalStateException",
        "int deposit(int,int) IndexOutOfBoundsException IllegalArgumentException"
            + " ArithmeticException",
        "int subscribe(int,int) IndexOutOfBoundsException IllegalArgumentException",
        "int buy(int,int) IndexOutOfBoundsException UnsupportedOperationException",
        "int credits(int) IndexOutOfBoundsException",
        "boolean has(int,int) IndexOutOfBoundsException",
        "long press()",
        "boolean isClean()",
        "float provedShare() ArithmeticException",
        "double meanSteps() ArithmeticException",
    };

    public static void main(String[] args) {
        Class<?> face = RiddlePress.class;
        Due.is("public and final", Modifier.PUBLIC | Modifier.FINAL, () -> face.getModifiers());
        List<String> due = new ArrayList<>(Arrays.asList(FACE));
        due.sort(Comparator.naturalOrder());
        Due.is("the methods", due, () -> methodsOf(face));
        Due.is("one constructor", 1, () -> face.getDeclaredConstructors().length);
        Constructor<?> constructor = face.getDeclaredConstructors()[0];
        Due.is("public", Modifier.PUBLIC, () -> constructor.getModifiers());
        Due.is("no parameters", 0, () -> constructor.getParameterCount());
        for (Field field : face.getDeclaredFields()) {
            Due.is(field.getName(), true, () -> Modifier.isPrivate(field.getModifiers()));
        }
        for (Class<?> part : face.getDeclaredClasses()) {
            Due.is(part.getName(), true, () -> Modifier.isStatic(part.getModifiers()));
            Due.is(part.getName(), false, () -> Modifier.isPublic(part.getModifiers()));
            for (Method method : part.getDeclaredMethods()) {
                Due.is(part.getName() + " " + method, false, () -> isNameOfFace(method));
            }
        }
        Due.end();
    }

    private static boolean isNameOfFace(Method method) {
        for (String told : FACE) {
            if (told.contains(" " + method.getName() + "(")) {
                return true;
            }
        }
        return false;
    }

    private static List<String> methodsOf(Class<?> face) {
        List<String> methods = new ArrayList<>();
        for (Method method : face.getDeclaredMethods()) {
            if (!Modifier.isPrivate(method.getModifiers()) || isNameOfFace(method)) {
                methods.add(textOf(method));
            }
        }
        methods.sort(Comparator.naturalOrder());
        return methods;
    }

    private static String textOf(Method method) {
        StringBuilder text = new StringBuilder();
        text.append(method.getReturnType().getSimpleName()).append(' ').append(method.getName());
        text.append('(');
        for (Class<?> type : method.getParameterTypes()) {
            text.append(text.charAt(text.length() - 1) == '(' ? "" : ",");
            text.append(type.getSimpleName());
        }
        text.append(')');
        for (Class<?> type : method.getExceptionTypes()) {
            text.append(' ').append(type.getSimpleName());
        }
        return text.toString();
    }
}
