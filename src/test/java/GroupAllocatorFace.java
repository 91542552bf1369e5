import java.lang.reflect.Constructor;
import java.lang.reflect.Field;
import java.lang.reflect.Method;
import java.lang.reflect.Modifier;
import java.util.HashSet;
import java.util.Set;
import java.util.TreeSet;

// The public face of the document, and the rules of LANGUAGE.md that the compiled class shows.
public final class GroupAllocatorFace {
    private static final Set<String> FACE = Set.of(
        "BAD = -1", "NONE = -2", "GroupAllocator(int)",
        "int allocate(int, int)", "int claim(int, int)", "int release(int)", "int grow(int)", "int halve(int)",
        "int extentOf(int)", "int freeBlocks(int)", "int largestFree(int)", "int freeRuns(int)", "int extents()");

    private static int wrong = 0;

    private static void check(String what, boolean holds) {
        if (!holds) {
            wrong++;
            System.out.println("not so: " + what);
        }
    }

    private static String typesOf(Class<?>[] types) {
        StringBuilder text = new StringBuilder();
        for (Class<?> type : types) {
            text.append(text.length() == 0 ? "" : ", ").append(type.getSimpleName());
        }
        return "(" + text + ")";
    }

    private static boolean isPlainType(Class<?> type) {
        Class<?> number = type.isArray() ? type.getComponentType() : type;
        return number.isPrimitive() && number != float.class && number != double.class;
    }

    private static void collectFields(Set<String> face) throws IllegalAccessException {
        int fields = 0;
        for (Field field : GroupAllocator.class.getDeclaredFields()) {
            int modifiers = field.getModifiers();
            boolean isStatic = Modifier.isStatic(modifiers);
            check("field " + field.getName() + " has a type of rule 2", isPlainType(field.getType()));
            check("static field " + field.getName() + " is a constant of int or long (rule 5)",
                !isStatic || Modifier.isFinal(modifiers)
                    && (field.getType() == int.class || field.getType() == long.class));
            if (!Modifier.isPrivate(modifiers)) {
                boolean isConstant = Modifier.isPublic(modifiers) && isStatic && field.getType() == int.class;
                face.add(isConstant ? field.getName() + " = " + field.getInt(null) : field.toString());
            }
            fields += isStatic ? 0 : 1;
        }
        check("at most forty fields (rule 10)", fields <= 40);
    }

    private static void collectConstructors(Set<String> face) {
        for (Constructor<?> made : GroupAllocator.class.getDeclaredConstructors()) {
            boolean isPublic = Modifier.isPublic(made.getModifiers());
            face.add((isPublic ? "" : "not public ") + "GroupAllocator" + typesOf(made.getParameterTypes()));
        }
    }

    private static void collectMethods(Set<String> face) {
        Set<String> publicNames = new HashSet<>();
        for (Method method : GroupAllocator.class.getDeclaredMethods()) {
            if (Modifier.isPublic(method.getModifiers())) {
                publicNames.add(method.getName());
            }
        }
        for (Method method : GroupAllocator.class.getDeclaredMethods()) {
            String signature = method.getReturnType().getSimpleName() + " " + method.getName()
                + typesOf(method.getParameterTypes());
            int modifiers = method.getModifiers();
            check("at most seven parameters (rule 10): " + signature, method.getParameterCount() <= 7);
            if (Modifier.isPrivate(modifiers)) {
                check("no public method's name (rule 1): " + signature, !publicNames.contains(method.getName()));
            } else {
                boolean isOfTheFace = Modifier.isPublic(modifiers) && !Modifier.isStatic(modifiers);
                face.add((isOfTheFace ? "" : "not a public method of an object: ") + signature);
            }
        }
    }

    public static void main(String[] args) throws IllegalAccessException {
        Set<String> face = new TreeSet<>();
        collectFields(face);
        collectConstructors(face);
        collectMethods(face);
        for (String member : FACE) {
            check("the class has " + member, face.contains(member));
        }
        for (String member : face) {
            check("the document has " + member, FACE.contains(member));
        }
        int modifiers = GroupAllocator.class.getModifiers();
        check("the class is public and final", Modifier.isPublic(modifiers) && Modifier.isFinal(modifiers));
        check("the class has no package", GroupAllocator.class.getPackageName().isEmpty());
        check("the class has no nested class", GroupAllocator.class.getDeclaredClasses().length == 0);
        System.out.println(wrong == 0 ? "the face is as due" : wrong + " things are not as due");
        if (wrong != 0) {
            System.exit(1);
        }
    }
}
