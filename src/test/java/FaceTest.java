import java.lang.reflect.Constructor;
import java.lang.reflect.Executable;
import java.lang.reflect.Field;
import java.lang.reflect.Method;
import java.lang.reflect.Modifier;
import java.util.Arrays;
import java.util.HashSet;
import java.util.Set;
import java.util.TreeSet;
import java.util.stream.Collectors;

/** The public face is the document's, name by name, and nothing else of the class is to be seen from outside. */
public final class FaceTest {
    private static final String ILLEGAL = "IllegalArgumentException";
    private static final String LARGE = ILLEGAL + ",UnsupportedOperationException";
    private static final String ARITHMETIC = "ArithmeticException," + ILLEGAL;

    private static int wrong;

    public static void main(String[] args) throws ReflectiveOperationException {
        Class<?> face = WholeNumbers.class;
        due("the class is public and final", face.getModifiers() == (Modifier.PUBLIC | Modifier.FINAL));
        due("NONE", WholeNumbers.class.getField("NONE").getInt(null) == -1);
        due("one constant", face.getFields().length == 1);
        due("one constructor", face.getDeclaredConstructors().length == 1 && face.getConstructor() != null);
        Set<String> want = new TreeSet<>(Set.of(
            "void set(int,long) " + ILLEGAL, "void move(int,int) " + ILLEGAL, "void reckon(int,int,int,int) " + LARGE,
            "void divide(int,int,int,int) " + ARITHMETIC, "void combine(int,int,int,int) " + LARGE,
            "void shift(int,int,int) " + LARGE, "void power(int,int,int) " + LARGE, "void root(int,int) " + ARITHMETIC,
            "void common(int,int,int) " + ILLEGAL, "void powerRest(int,int,int,int) " + ARITHMETIC,
            "int compare(int,int) " + ILLEGAL, "long low(int) " + ILLEGAL, "int length(int) " + ILLEGAL,
            "boolean bit(int,int) " + ILLEGAL, "int ones(int) " + ILLEGAL, "boolean feed(int) ",
            "int read(int,int) " + ILLEGAL, "int print(int,int) " + ILLEGAL, "int out(int) ", "int turn() "));
        Set<String> found = new TreeSet<>();
        Set<String> publicNames = new HashSet<>();
        for (Method method : face.getDeclaredMethods()) {
            if (Modifier.isPublic(method.getModifiers())) {
                found.add(method.getReturnType().getSimpleName() + " " + method.getName() + names(method));
                publicNames.add(method.getName());
            }
        }
        due("the methods " + found, found.equals(want));
        for (Method method : face.getDeclaredMethods()) {
            int modifiers = method.getModifiers();
            boolean hidden = Modifier.isPrivate(modifiers) && !publicNames.contains(method.getName());
            due("method " + method.getName(), Modifier.isPublic(modifiers) || hidden);
        }
        for (Field field : face.getDeclaredFields()) {
            due("field " + field.getName(), field.getName().equals("NONE") || Modifier.isPrivate(field.getModifiers()));
        }
        for (Class<?> inside : face.getDeclaredClasses()) {
            checkInside(inside, publicNames);
        }
        System.out.println("FaceTest: " + (wrong == 0 ? "the face is as due" : wrong + " things are not as due"));
        if (wrong > 0) {
            System.exit(1);
        }
    }

    private static void checkInside(Class<?> inside, Set<String> publicNames) {
        due("class " + inside.getSimpleName(), !Modifier.isPublic(inside.getModifiers()) && Modifier.isStatic(inside.getModifiers()));
        for (Method method : inside.getDeclaredMethods()) {
            due("method " + inside.getSimpleName() + "." + method.getName(), !publicNames.contains(method.getName()));
        }
        for (Field field : inside.getDeclaredFields()) {
            int modifiers = field.getModifiers();
            due("field " + field.getName(), !Modifier.isStatic(modifiers) || Modifier.isFinal(modifiers));
        }
        for (Constructor<?> constructor : inside.getDeclaredConstructors()) {
            due("constructor of " + inside.getSimpleName(), !Modifier.isPublic(constructor.getModifiers()));
        }
    }

    private static String names(Executable of) {
        String takes = Arrays.stream(of.getParameterTypes()).map(Class::getSimpleName).collect(Collectors.joining(","));
        String throwsNames = Arrays.stream(of.getExceptionTypes()).map(Class::getSimpleName).sorted().collect(Collectors.joining(","));
        return "(" + takes + ") " + throwsNames;
    }

    private static void due(String what, boolean holds) {
        if (!holds) {
            wrong++;
            System.out.println("FaceTest: " + what + ": not as due");
        }
    }
}
