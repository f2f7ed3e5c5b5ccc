import java.lang.reflect.Constructor;
import java.lang.reflect.Field;
import java.lang.reflect.Method;
import java.lang.reflect.Modifier;
import java.util.Arrays;
import java.util.Set;
import java.util.TreeSet;

/** The public face of the document, and the rules of LANGUAGE.md that the compiled class shows. */
public final class FaceTest {
    private static final Checks CHECKS = new Checks();
    private static final Set<String> FACE = new TreeSet<>(Arrays.asList(
        "public static final int BAD", "public static final int FULL", "public static final int NONE",
        "public SlotMarket(int, int)",
        "public int bring(int, int, int)", "public boolean take(int)", "public boolean setRoom(int, int)",
        "public boolean revalue(int, int)", "public int room(int)", "public int jobs()", "public int worth(int)",
        "public int chosen()", "public int total()", "public boolean fits(int)", "public int price(int)",
        "public int loss(int)", "public int gain(int)", "public int slotOf(int)"));
    private static final Set<Class<?>> TYPES = Set.of(
        int.class, long.class, short.class, byte.class, char.class, boolean.class,
        int[].class, long[].class, short[].class, byte[].class, char[].class, boolean[].class);

    public static void main(String[] args) {
        CHECKS.due("BAD", SlotMarket.BAD, -1);
        CHECKS.due("FULL", SlotMarket.FULL, -2);
        CHECKS.due("NONE", SlotMarket.NONE, -1);
        faceIsTheDocuments();
        fieldsKeepTheRules();
        methodsKeepTheRules();
        CHECKS.finish();
    }

    private static void faceIsTheDocuments() {
        Set<String> seen = new TreeSet<>();
        for (Field field : SlotMarket.class.getDeclaredFields()) {
            if (!Modifier.isPrivate(field.getModifiers())) {
                seen.add(Modifier.toString(field.getModifiers()) + " " + field.getType() + " " + field.getName());
            }
        }
        for (Constructor<?> made : SlotMarket.class.getDeclaredConstructors()) {
            seen.add(made.toString().replace(",", ", "));
        }
        for (Method method : SlotMarket.class.getDeclaredMethods()) {
            if (!Modifier.isPrivate(method.getModifiers())) {
                seen.add(method.toString().replace("SlotMarket.", "").replace(",", ", "));
            }
        }
        CHECKS.due("the face " + seen + " is the document's", seen.equals(FACE), true);
        int modifiers = SlotMarket.class.getModifiers();
        CHECKS.due("public final class", modifiers, Modifier.PUBLIC | Modifier.FINAL);
        CHECKS.due("no package", SlotMarket.class.getPackageName().isEmpty(), true);
        CHECKS.due("no parent but Object", SlotMarket.class.getSuperclass() == Object.class, true);
        CHECKS.due("no interfaces", SlotMarket.class.getInterfaces().length, 0);
        CHECKS.due("no nested classes", SlotMarket.class.getDeclaredClasses().length, 0);
    }

    private static void fieldsKeepTheRules() {
        for (Field field : SlotMarket.class.getDeclaredFields()) {
            CHECKS.due("type of " + field, TYPES.contains(field.getType()), true);
            if (Modifier.isStatic(field.getModifiers())) {
                boolean number = field.getType() == int.class || field.getType() == long.class;
                CHECKS.due("constant " + field, number && Modifier.isFinal(field.getModifiers()), true);
            }
        }
    }

    private static void methodsKeepTheRules() {
        Set<String> publicNames = new TreeSet<>();
        for (Method method : SlotMarket.class.getMethods()) {
            publicNames.add(method.getName());
        }
        for (Method method : SlotMarket.class.getDeclaredMethods()) {
            Class<?> answer = method.getReturnType();
            CHECKS.due("answer of " + method, answer.isPrimitive(), true);
            CHECKS.due("parameters of " + method, TYPES.containsAll(Arrays.asList(method.getParameterTypes())), true);
            CHECKS.due("at most seven: " + method, method.getParameterCount() <= 7, true);
            boolean hidden = Modifier.isPrivate(method.getModifiers());
            CHECKS.due("own name: " + method, hidden && publicNames.contains(method.getName()), false);
        }
    }
}
