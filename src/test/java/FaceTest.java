import java.lang.reflect.Constructor;
import java.lang.reflect.Field;
import java.lang.reflect.Method;
import java.lang.reflect.Modifier;
import java.util.Arrays;
import java.util.TreeSet;

/** The public face: just the constructor and the methods of the document, with their exceptions. */
public final class FaceTest {
    private static final Checks checks = new Checks("FaceTest");
    private static final String[] FACE = {
        "int send(int, char, int, int, int) IllegalArgumentException IllegalStateException",
        "int sendStop(int, char, int, int, int) IllegalArgumentException IllegalStateException",
        "int cancel(int) NoSuchElementException IllegalStateException",
        "int reduce(int, int) NoSuchElementException IllegalArgumentException IllegalStateException",
        "int setBand(int) IllegalArgumentException",
        "char setRule(char) IllegalArgumentException",
        "int halt() IllegalStateException",
        "int auction() IllegalStateException",
        "boolean isHalted()",
        "char stateOf(int) NoSuchElementException",
        "int leftOf(int) NoSuchElementException",
        "int shownOf(int) NoSuchElementException IllegalStateException",
        "float filledShare(int) NoSuchElementException",
        "int orderCount()",
        "int levels(char) IllegalArgumentException",
        "int levelPrice(char, int) IllegalArgumentException NoSuchElementException",
        "int shownAt(char, int) IllegalArgumentException NoSuchElementException",
        "int leftAt(char, int) IllegalArgumentException NoSuchElementException",
        "int ordersAt(char, int) IllegalArgumentException NoSuchElementException",
        "int orderAt(char, int, int) IllegalArgumentException NoSuchElementException IndexOutOfBoundsException",
        "int spread() NoSuchElementException",
        "int waiting()",
        "int auctionPrice() NoSuchElementException",
        "int auctionPriceByTrying() NoSuchElementException",
        "int volumeAt(int) IllegalArgumentException",
        "int tradeCount()",
        "int tradePrice(int) NoSuchElementException",
        "int tradeAmount(int) NoSuchElementException",
        "int tradeBuyer(int) NoSuchElementException",
        "int tradeSeller(int) NoSuchElementException",
        "long volume()",
        "double meanPrice() ArithmeticException",
        "int owners()",
        "boolean isConsistent()",
    };

    private FaceTest() {
    }

    public static void main(String[] args) {
        classItself();
        methods();
        names();
        classesInside();
        checks.end();
    }

    private static void classItself() {
        int modifiers = MatchFloor.class.getModifiers();
        checks.holds("public", Modifier.isPublic(modifiers));
        checks.holds("final", Modifier.isFinal(modifiers));
        Constructor<?>[] constructors = MatchFloor.class.getDeclaredConstructors();
        checks.same("constructors", constructors.length, 1);
        checks.holds("it is public", Modifier.isPublic(constructors[0].getModifiers()));
        checks.same("its parameters", constructors[0].getParameterCount(), 0);
        for (Field field : MatchFloor.class.getDeclaredFields()) {
            checks.holds("private " + field.getName(), Modifier.isPrivate(field.getModifiers()));
            boolean kept = !Modifier.isStatic(field.getModifiers()) || Modifier.isFinal(field.getModifiers());
            checks.holds("no static state " + field.getName(), kept);
        }
    }

    private static void methods() {
        TreeSet<String> due = new TreeSet<>(Arrays.asList(FACE));
        TreeSet<String> got = new TreeSet<>();
        for (Method method : MatchFloor.class.getDeclaredMethods()) {
            if (!Modifier.isPrivate(method.getModifiers())) {
                got.add(written(method));
                checks.fails("static " + method.getName(), Modifier.isStatic(method.getModifiers()));
            }
        }
        checks.same("methods", got.toString(), due.toString());
    }

    private static String written(Method method) {
        StringBuilder text = new StringBuilder();
        text.append(method.getReturnType().getSimpleName()).append(' ').append(method.getName()).append('(');
        for (Class<?> type : method.getParameterTypes()) {
            text.append(text.charAt(text.length() - 1) == '(' ? "" : ", ").append(type.getSimpleName());
        }
        text.append(')');
        for (Class<?> type : method.getExceptionTypes()) {
            text.append(' ').append(type.getSimpleName());
        }
        return text.toString();
    }

    private static void names() {
        TreeSet<String> names = new TreeSet<>();
        for (String method : FACE) {
            names.add(method.substring(method.indexOf(' ') + 1, method.indexOf('(')));
        }
        for (Method method : MatchFloor.class.getDeclaredMethods()) {
            boolean hidden = Modifier.isPrivate(method.getModifiers());
            checks.fails("a private " + method.getName(), hidden && names.contains(method.getName()));
        }
    }

    private static void classesInside() {
        for (Class<?> inside : MatchFloor.class.getDeclaredClasses()) {
            int modifiers = inside.getModifiers();
            checks.holds("static " + inside.getName(), Modifier.isStatic(modifiers));
            checks.fails("public " + inside.getName(), Modifier.isPublic(modifiers) || Modifier.isProtected(modifiers));
            checks.holds("fields of " + inside.getName(), inside.getDeclaredFields().length <= 20);
        }
        checks.holds("classes", MatchFloor.class.getDeclaredClasses().length <= 12);
    }
}
