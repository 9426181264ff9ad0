import java.lang.reflect.Constructor;
import java.lang.reflect.Field;
import java.lang.reflect.Member;
import java.lang.reflect.Method;
import java.lang.reflect.Modifier;
import java.util.Arrays;
import java.util.Set;
import java.util.TreeSet;

/** The public face: what it has, and that it has nothing else. */
public final class FaceTest {
    private static final String[] METHODS = {
        "int append(int, int, int, int, int) IllegalStateException",
        "int truncate(int) IllegalArgumentException", "int load()", "int runScript()", "int errorCode()",
        "int errorPosition()", "int day()", "int bank()", "int wage()", "int basePrice()", "int retirementAge()",
        "int boardCount()", "int armLength(int) IndexOutOfBoundsException",
        "int stiffness(int) IndexOutOfBoundsException", "int torque(int) IndexOutOfBoundsException",
        "int tilt(int) IndexOutOfBoundsException", "boolean isBalanced(int) IndexOutOfBoundsException",
        "int seatOwner(int, int) IndexOutOfBoundsException", "int seatHeight(int, int) IndexOutOfBoundsException",
        "int seatPrice(int, int) IndexOutOfBoundsException",
        "int balancingSeat(int, int) IndexOutOfBoundsException IllegalArgumentException",
        "int traderCount()", "int findTrader()", "int nameLetter(int, int) IndexOutOfBoundsException",
        "int weightOf(int) IndexOutOfBoundsException", "int purseOf(int) IndexOutOfBoundsException",
        "int ageOf(int) IndexOutOfBoundsException", "boolean isPresent(int) IndexOutOfBoundsException",
        "int boardOf(int) IndexOutOfBoundsException", "int positionOf(int) IndexOutOfBoundsException",
        "int incomeOf(int) IndexOutOfBoundsException", "int richestAt(int)",
        "int reasonAgainstSeat(int, int, int) IndexOutOfBoundsException",
        "int reasonAgainstSale(int, int, int) IndexOutOfBoundsException IllegalArgumentException",
        "int reasonAgainstSwap(int, int) IndexOutOfBoundsException IllegalArgumentException",
        "int weightUnitPrice(int, int) IndexOutOfBoundsException IllegalStateException",
        "int bestSeat(int, int) IndexOutOfBoundsException", "int seatsSold()", "int weightSold()", "int fallCount()",
        "double averagePurse()", "float occupancy()", "int contradictions()", "int eventKind(int)",
        "int eventTrader(int)", "int eventDay(int)",
        "int purseAfter(int, int) IndexOutOfBoundsException IllegalArgumentException",
        "int bankAfter(int) IllegalArgumentException", "int daysUntilFall(int) IndexOutOfBoundsException",
        "int daysUntilRetirement(int) IndexOutOfBoundsException",
        "int join(int, int) IllegalArgumentException IllegalStateException",
        "int buySeat(int, int, int) IndexOutOfBoundsException IllegalStateException",
        "int leaveSeat(int) IndexOutOfBoundsException IllegalStateException",
        "int sellWeight(int, int, int) IndexOutOfBoundsException IllegalArgumentException IllegalStateException",
        "int swapSeats(int, int) IndexOutOfBoundsException IllegalArgumentException IllegalStateException",
        "int setWage(int) IllegalArgumentException",
        "int advance(int) IllegalArgumentException IllegalStateException",
        "int writeBoard(int) IndexOutOfBoundsException", "int outputByte(int)", "int undoCount()",
        "int undo() IllegalStateException", "int save(int) IndexOutOfBoundsException",
        "int restore(int) IndexOutOfBoundsException IllegalStateException",
    };

    private static final String[] CONSTANTS = {
        "NONE -1", "SYNTAX 1", "OUT_OF_RANGE 2", "ALREADY_USED 3", "UNKNOWN_NAME 4", "TOO_MANY 5", "FALL 1",
        "RETIREMENT 2", "POSSIBLE 0", "RETIRED 1", "SEAT_TAKEN 2", "TOO_POOR 3", "WOULD_TIP 4", "NO_SEAT 5",
        "DIFFERENT_BOARDS 6", "WRONG_WEIGHT 7",
    };

    public static void main(String[] args) throws IllegalAccessException {
        theClassIsPublicAndFinal();
        theMethodsAreThoseOfTheDocument();
        theConstantsAreThoseOfTheDocument();
        theRestIsPrivate();
        noPrivateMethodBearsTheNameOfAPublicOne();
        Expect.end();
    }

    private static void theClassIsPublicAndFinal() {
        int modifiers = SeesawMarket.class.getModifiers();
        Expect.same("public final class", Modifier.isPublic(modifiers) && Modifier.isFinal(modifiers), true);
        Constructor<?>[] constructors = SeesawMarket.class.getDeclaredConstructors();
        Expect.same("constructors", constructors.length, 1);
        Expect.same("public constructor", Modifier.isPublic(constructors[0].getModifiers()), true);
        Expect.same("parameters of the constructor", constructors[0].getParameterCount(), 0);
    }

    private static void theMethodsAreThoseOfTheDocument() {
        Set<String> found = new TreeSet<>();
        for (Method method : SeesawMarket.class.getDeclaredMethods()) {
            if (!Modifier.isPrivate(method.getModifiers())) {
                found.add(signature(method));
                Expect.same(method + " is public and of the object", method.getModifiers(), Modifier.PUBLIC);
            }
        }
        Expect.same("methods", found.toString(), new TreeSet<>(Arrays.asList(METHODS)).toString());
    }

    private static String signature(Method method) {
        StringBuilder signature = new StringBuilder();
        signature.append(method.getReturnType()).append(' ').append(method.getName()).append('(');
        String gap = "";
        for (Class<?> parameter : method.getParameterTypes()) {
            signature.append(gap).append(parameter);
            gap = ", ";
        }
        signature.append(')');
        for (Class<?> exception : method.getExceptionTypes()) {
            signature.append(' ').append(exception.getSimpleName());
        }
        return signature.toString();
    }

    private static void theConstantsAreThoseOfTheDocument() throws IllegalAccessException {
        Set<String> found = new TreeSet<>();
        for (Field field : SeesawMarket.class.getDeclaredFields()) {
            if (!Modifier.isPrivate(field.getModifiers())) {
                found.add(field.getName() + " " + field.getInt(null));
                Expect.same(field + " is a public constant", field.getModifiers(),
                        Modifier.PUBLIC | Modifier.STATIC | Modifier.FINAL);
            }
        }
        Expect.same("constants", found.toString(), new TreeSet<>(Arrays.asList(CONSTANTS)).toString());
    }

    private static void theRestIsPrivate() {
        for (Class<?> inner : SeesawMarket.class.getDeclaredClasses()) {
            int modifiers = inner.getModifiers();
            Expect.same(inner + " is static", Modifier.isStatic(modifiers), true);
            Expect.same(inner + " is public", Modifier.isPublic(modifiers) || Modifier.isProtected(modifiers), false);
        }
    }

    private static void noPrivateMethodBearsTheNameOfAPublicOne() {
        Set<String> names = new TreeSet<>();
        for (Method method : SeesawMarket.class.getMethods()) {
            names.add(method.getName());
        }
        for (Method method : SeesawMarket.class.getDeclaredMethods()) {
            if (Modifier.isPrivate(method.getModifiers())) {
                checkName(names, method);
            }
        }
        for (Class<?> inner : SeesawMarket.class.getDeclaredClasses()) {
            for (Method method : inner.getDeclaredMethods()) {
                checkName(names, method);
            }
        }
    }

    private static void checkName(Set<String> names, Member member) {
        Expect.same(member + " bears a public name", names.contains(member.getName()), false);
    }
}
