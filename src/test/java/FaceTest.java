import java.lang.reflect.Constructor;
import java.lang.reflect.Field;
import java.lang.reflect.Method;
import java.lang.reflect.Modifier;
import java.util.Set;
import java.util.TreeSet;

/** The public face: each member that the document lists, with its throws clause, and no other one. */
public final class FaceTest {
    private static final String[] FACE = {
        "int exchange(int, int) throws IndexOutOfBoundsException, IllegalStateException",
        "int noteHas(int, int) throws IndexOutOfBoundsException, IllegalStateException",
        "int noteLacks(int, int) throws IndexOutOfBoundsException, IllegalStateException",
        "int noteShows(int, int, int, int) throws IndexOutOfBoundsException, IllegalStateException",
        "int dropClue(int) throws IndexOutOfBoundsException",
        "int dropAll()",
        "boolean ask(int, int, int, int) throws IndexOutOfBoundsException, IllegalStateException",
        "int look(int, int, int, int) throws IndexOutOfBoundsException, IllegalStateException",
        "boolean accuse(int, int, int) throws IndexOutOfBoundsException, IllegalStateException",
        "int append(int) throws IllegalArgumentException, IllegalStateException",
        "int clearBuffer()",
        "int firstError()",
        "int work() throws IllegalArgumentException",
        "boolean hasStopped()",
        "int stoppedPart() throws IllegalStateException",
        "int whyStopped() throws IllegalStateException",
        "int undo() throws IllegalStateException",
        "int keep()",
        "int restore() throws IllegalStateException",
        "int savedStates()",
        "int truePlace(int) throws IndexOutOfBoundsException",
        "int trueEnvelope()",
        "int clues()",
        "int kindOf(int) throws IndexOutOfBoundsException",
        "int playerOf(int) throws IndexOutOfBoundsException",
        "int cardsOf(int) throws IndexOutOfBoundsException",
        "boolean isTrue(int) throws IndexOutOfBoundsException",
        "int untrueClues()",
        "int deals()",
        "int dealsByHands()",
        "int dealsWith(int, int) throws IndexOutOfBoundsException",
        "boolean mayBe(int, int) throws IndexOutOfBoundsException",
        "int certainPlace(int) throws IndexOutOfBoundsException",
        "int certainCards()",
        "boolean isBroken()",
        "boolean mayBeByRules(int, int) throws IndexOutOfBoundsException",
        "int placeByRules(int) throws IndexOutOfBoundsException",
        "int crossedOff()",
        "int hiddenCrosses()",
        "int envelopeDeals(int) throws IndexOutOfBoundsException",
        "int envelopes()",
        "int bestAccusation() throws IllegalStateException",
        "boolean isSolved()",
        "int dealsIfPassed(int, int) throws IndexOutOfBoundsException",
        "int leftBy(int, int) throws IndexOutOfBoundsException",
        "int bestQuestion(int) throws IndexOutOfBoundsException, IllegalStateException",
        "int dealsWithout(int) throws IndexOutOfBoundsException",
        "int idleClues()",
        "double chance()",
        "long digest()"
    };

    public static void main(String[] args) {
        methods();
        constructors();
        fields();
        Checks.end();
    }

    private static String told(Method method) {
        StringBuilder text = new StringBuilder();
        text.append(method.getReturnType().getSimpleName()).append(' ').append(method.getName());
        text.append('(').append(names(method.getParameterTypes())).append(')');
        if (method.getExceptionTypes().length > 0) {
            text.append(" throws ").append(names(method.getExceptionTypes()));
        }
        return text.toString();
    }

    private static String names(Class<?>[] types) {
        StringBuilder text = new StringBuilder();
        for (Class<?> type : types) {
            text.append(text.length() > 0 ? ", " : "").append(type.getSimpleName());
        }
        return text.toString();
    }

    private static void methods() {
        Set<String> want = new TreeSet<>(Set.of(FACE));
        Set<String> got = new TreeSet<>();
        Set<String> faceNames = new TreeSet<>();
        Set<String> otherNames = new TreeSet<>();
        for (Method method : AlibiDeals.class.getDeclaredMethods()) {
            boolean isPrivate = Modifier.isPrivate(method.getModifiers());
            (isPrivate ? otherNames : faceNames).add(method.getName());
            if (!isPrivate) {
                got.add(told(method));
                Checks.due(method.getName() + " is public", Modifier.isPublic(method.getModifiers()), true);
                Checks.due(method.getName() + " is static", Modifier.isStatic(method.getModifiers()), false);
            }
        }
        Checks.dueSame("the methods", got, want);
        otherNames.retainAll(faceNames);
        Checks.dueSame("the private methods with a name of the face", otherNames, new TreeSet<String>());
    }

    private static void constructors() {
        Constructor<?>[] all = AlibiDeals.class.getDeclaredConstructors();
        Checks.due("the number of constructors", all.length, 1);
        Checks.due("the constructor is public", Modifier.isPublic(all[0].getModifiers()), true);
        Checks.due("the constructor's parameters", all[0].getParameterCount(), 0);
        Checks.due("the class is final", Modifier.isFinal(AlibiDeals.class.getModifiers()), true);
        Checks.due("the class is public", Modifier.isPublic(AlibiDeals.class.getModifiers()), true);
    }

    private static void fields() {
        for (Field field : AlibiDeals.class.getDeclaredFields()) {
            int is = field.getModifiers();
            Checks.due(field.getName() + " is private", Modifier.isPrivate(is), true);
            Checks.due(field.getName() + " is final if static", !Modifier.isStatic(is) || Modifier.isFinal(is), true);
        }
    }
}
