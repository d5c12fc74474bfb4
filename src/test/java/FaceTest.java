import java.lang.reflect.Constructor;
import java.lang.reflect.Executable;
import java.lang.reflect.Field;
import java.lang.reflect.Method;
import java.lang.reflect.Modifier;
import java.lang.reflect.Parameter;
import java.util.Set;
import java.util.TreeSet;

/** The public face, with its parameters' names, and rule 1 of LANGUAGE.md. Wants a class compiled with -parameters. */
public final class FaceTest {
    private static final String[] METHODS = {
        "int put(int row, int thing, int mark) I A",
        "int drop(int row, int thing) I N",
        "int setWeight(int row, int weight) I A",
        "int setRule(int rule) A",
        "int setCosts(int read, int ask) A",
        "int setWindow(int width, int counters) A",
        "int push(int number) A",
        "int undo()",
        "int itemCount(int row) I",
        "int thingAt(int row, int place) I",
        "int markAt(int row, int place) I",
        "int placeOf(int row, int thing) I N",
        "int value(int thing) I",
        "int knownCount()",
        "int ranked(int rank) I",
        "int rankOf(int thing) I N",
        "int limit(int depth) A",
        "int stopDepth(int k) A",
        "int cost(int k) A",
        "int best(int k, int rank) A I",
        "int refute(int k, int depth) A N",
        "int lower(int thing, int depth) I A",
        "int upper(int thing, int depth) I A",
        "int plainDepth(int k) A",
        "int plainCost(int k) A",
        "boolean holds(int k, int row, int thing, int mark) I A",
        "int mergedCount()",
        "int mergedThing(int place) I",
        "int mergedRow(int place) I",
        "int comparisons(int row, int other) I A",
        "int allComparisons()",
        "int quantile(int thousandths) A N",
        "int candidates()",
        "int prefer(int thing, int other) I",
        "int winner() N",
        "int ring()",
        "int swaps()",
        "int orderAt(int place) I",
        "int windowSize()",
        "int windowAt(int rank) I",
        "int unlike()",
        "int counted(int number) A",
        "int came(int number) A",
        "int bound()",
        "int pairSum(int row, int other, int rank) I",
        "int pairPlace(int row, int other, int rank, boolean isSecond) I",
        "int common(int row, int other) I",
        "int commonAt(int row, int other, int place) I",
        "double meanMark()",
        "float fill()",
        "int errors()",
    };

    public static void main(String[] args) throws ReflectiveOperationException {
        Class<ToplistHouse> house = ToplistHouse.class;
        Check.due("the class", () -> Modifier.toString(house.getModifiers()), "public final");
        constants(house);
        constructor(house);
        methods(house);
        classesInside(house);
        Check.finish();
    }

    private static void constants(Class<?> house) throws ReflectiveOperationException {
        Check.due("NONE", () -> ToplistHouse.NONE, -1);
        Check.due("SUM", () -> ToplistHouse.SUM, 0);
        Check.due("LEAST", () -> ToplistHouse.LEAST, 1);
        Check.due("GREATEST", () -> ToplistHouse.GREATEST, 2);
        Set<String> names = new TreeSet<>();
        for (Field field : house.getDeclaredFields()) {
            if (!Modifier.isPrivate(field.getModifiers())) {
                names.add(field.getName());
                Check.due(field.getName(), () -> Modifier.toString(field.getModifiers()) + " " + field.getType(),
                        "public static final int");
            }
        }
        Check.due("constants", names::toString, "[GREATEST, LEAST, NONE, SUM]");
    }

    private static void constructor(Class<?> house) {
        Constructor<?>[] all = house.getDeclaredConstructors();
        Check.due("constructors", () -> all.length, 1);
        Check.due("constructor", () -> Modifier.toString(all[0].getModifiers()) + told(all[0]), "public()");
    }

    private static void methods(Class<?> house) {
        Set<String> due = new TreeSet<>(Set.of(METHODS));
        Set<String> found = new TreeSet<>();
        Set<String> names = new TreeSet<>();
        for (Method method : house.getDeclaredMethods()) {
            if (!Modifier.isPrivate(method.getModifiers())) {
                Check.due(method.getName(), () -> Modifier.toString(method.getModifiers()), "public");
                found.add(method.getReturnType() + " " + method.getName() + told(method));
                names.add(method.getName());
            }
        }
        Check.due("methods", found::toString, due.toString());
        for (Class<?> inside : house.getDeclaredClasses()) {
            noneIsCalledAsAPublicOne(inside, names);
        }
        noneIsCalledAsAPublicOne(house, names);
    }

    private static void noneIsCalledAsAPublicOne(Class<?> where, Set<String> names) {
        for (Method method : where.getDeclaredMethods()) {
            boolean isPublic = Modifier.isPublic(method.getModifiers());
            Check.isTrue("rule 1, " + where + ", " + method, isPublic || !names.contains(method.getName()));
        }
    }

    private static void classesInside(Class<?> house) {
        Check.isTrue("rule 11, some twelve classes", house.getDeclaredClasses().length < 12);
        for (Class<?> inside : house.getDeclaredClasses()) {
            int modifiers = inside.getModifiers();
            Check.isTrue("rule 1, " + inside, Modifier.isStatic(modifiers) && !Modifier.isPublic(modifiers)
                    && !Modifier.isProtected(modifiers));
        }
    }

    /** The parameters and the exceptions of a call as they stand in METHODS. */
    private static String told(Executable call) {
        StringBuilder text = new StringBuilder("(");
        for (Parameter parameter : call.getParameters()) {
            text.append(text.length() == 1 ? "" : ", ").append(parameter.getType()).append(' ')
                    .append(parameter.getName());
        }
        text.append(')');
        for (Class<?> exception : call.getExceptionTypes()) {
            text.append(' ').append(letterOf(exception.getName()));
        }
        return text.toString();
    }

    private static String letterOf(String exception) {
        switch (exception) {
            case "java.lang.IndexOutOfBoundsException":
                return "I";
            case "java.lang.IllegalArgumentException":
                return "A";
            case "java.util.NoSuchElementException":
                return "N";
            default:
                return exception;
        }
    }
}
