import java.lang.reflect.Constructor;
import java.lang.reflect.Field;
import java.lang.reflect.Method;
import java.lang.reflect.Modifier;
import java.util.Arrays;
import java.util.HashSet;
import java.util.List;
import java.util.Set;
import java.util.TreeSet;

/** The public face of the class, and the rules of LANGUAGE.md that show in the compiled class. */
public final class KilnHeapFace {
    private static final Set<String> METHODS = Set.of(
        "int make(int, int, int)", "int weak(int, int)", "int list(int, int, int)", "int put(int, int, int)",
        "int link(int, int, int)", "int load(int, int, int)", "int copy(int, int)", "int clear(int)",
        "long read(int, int)", "int serial(int)", "int shape(int)", "int collect()", "int count(int)",
        "int finalized(int)");
    private static final Set<String> CONSTANTS = Set.of("int REFUSED", "int NULL", "int FULL", "long REFERENCE",
        "long NOTHING", "long BAD");
    private static final List<Class<?>> NUMBERS = List.of(int.class, long.class, short.class, byte.class, char.class,
        boolean.class);

    private static int wrong = 0;

    private static void due(String what, Object got, Object want) {
        if (!got.equals(want)) {
            wrong++;
            System.out.println(what + " is " + got + ", due is " + want);
        }
    }

    private static String types(Class<?>[] parameters) {
        StringBuilder text = new StringBuilder("(");
        for (Class<?> type : parameters) {
            text.append(text.length() == 1 ? "" : ", ").append(type.getSimpleName());
        }
        return text.append(")").toString();
    }

    private static void methods() {
        Set<String> open = new HashSet<>();
        Set<String> openNames = new HashSet<>();
        Set<String> hiddenNames = new HashSet<>();
        for (Method method : KilnHeap.class.getDeclaredMethods()) {
            String text = method.getReturnType().getSimpleName() + " " + method.getName()
                + types(method.getParameterTypes());
            due(text + " takes at most seven parameters", method.getParameterCount() <= 7, true);
            due(text + " answers no array", method.getReturnType().isArray(), false);
            due(text + " is synchronized", Modifier.isSynchronized(method.getModifiers()), false);
            if (Modifier.isPrivate(method.getModifiers())) {
                hiddenNames.add(method.getName());
            } else {
                due(text + " is public", Modifier.isPublic(method.getModifiers()), true);
                due(text + " is static", Modifier.isStatic(method.getModifiers()), false);
                open.add(text);
                openNames.add(method.getName());
            }
        }
        due("the public methods", new TreeSet<>(open), new TreeSet<>(METHODS));
        hiddenNames.retainAll(openNames);
        due("the names both public and private", hiddenNames, Set.of());
    }

    private static void fields() {
        Set<String> open = new HashSet<>();
        int variables = 0;
        for (Field field : KilnHeap.class.getDeclaredFields()) {
            Class<?> type = field.getType();
            String text = type.getSimpleName() + " " + field.getName();
            Class<?> number = type.isArray() ? type.getComponentType() : type;
            due(text + " is of a type that is allowed", NUMBERS.contains(number), true);
            if (Modifier.isStatic(field.getModifiers())) {
                due(text + " is a constant", Modifier.isFinal(field.getModifiers()), true);
                due(text + " is int or long", type == int.class || type == long.class, true);
            } else {
                variables++;
            }
            if (!Modifier.isPrivate(field.getModifiers())) {
                due(text + " is public and static",
                    Modifier.isPublic(field.getModifiers()) && Modifier.isStatic(field.getModifiers()), true);
                open.add(text);
            }
        }
        due("the public constants", new TreeSet<>(open), new TreeSet<>(CONSTANTS));
        due("at most forty fields", variables <= 40, true);
    }

    private static void theClass() {
        int modifiers = KilnHeap.class.getModifiers();
        due("the class is public and final", Modifier.isPublic(modifiers) && Modifier.isFinal(modifiers), true);
        due("the package", KilnHeap.class.getPackageName(), "");
        due("the parent", KilnHeap.class.getSuperclass(), Object.class);
        due("the interfaces", Arrays.asList(KilnHeap.class.getInterfaces()), List.of());
        due("the nested classes", Arrays.asList(KilnHeap.class.getDeclaredClasses()), List.of());
        Constructor<?>[] constructors = KilnHeap.class.getDeclaredConstructors();
        due("the number of constructors", constructors.length, 1);
        due("the constructor's parameters", types(constructors[0].getParameterTypes()), "(int, int)");
        due("the constructor is public", Modifier.isPublic(constructors[0].getModifiers()), true);
    }

    public static void main(String[] args) {
        theClass();
        methods();
        fields();
        System.out.println(wrong == 0 ? "the face is as due" : wrong + " parts of the face are not as due");
        if (wrong != 0) {
            System.exit(1);
        }
    }
}
