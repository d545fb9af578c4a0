import java.lang.reflect.Constructor;
import java.lang.reflect.Field;
import java.lang.reflect.Method;
import java.lang.reflect.Modifier;
import java.util.Arrays;
import java.util.HashSet;
import java.util.Set;
import java.util.TreeSet;

/** The face of the class is the document's, word for word, and nothing else can be seen of it. */
public final class ParcelChutesFace {
    private static final String INDEX = "java.lang.IndexOutOfBoundsException";
    private static final String ARGUMENT = "java.lang.IllegalArgumentException";
    private static final String STATE = "java.lang.IllegalStateException";
    private static final String ELEMENT = "java.util.NoSuchElementException";

    private static final String[] FACE = {
        method("int", "sort(int,int)", INDEX, ARGUMENT, STATE),
        method("int", "limits(int,int,int,int)", INDEX, ARGUMENT, STATE),
        method("boolean", "shut(int,boolean)", INDEX),
        method("int", "send(int,int)", ARGUMENT),
        method("int", "fits(int,int)", ARGUMENT),
        method("int", "signs(int,int,int)", INDEX, ARGUMENT),
        method("int", "chute(int,int)", INDEX, ARGUMENT),
        method("int", "weight(int,int)", INDEX, ELEMENT),
        method("int", "girth(int,int)", INDEX, ELEMENT),
        method("int", "below(int,int)", INDEX, ARGUMENT),
        method("int", "take(int,int)", INDEX, ARGUMENT, ELEMENT),
        method("int", "pour(int,int)", INDEX, ARGUMENT),
        method("int", "sweep(int)", INDEX),
        method("int", "heavier(int,int)", INDEX),
        method("int", "alike(int,int)", INDEX),
        method("int", "gauge(int)", ARGUMENT),
    };

    private static int wrong = 0;

    private static String method(String type, String call, String... thrown) {
        return "public " + type + " ParcelChutes." + call + " throws " + String.join(",", thrown);
    }

    private static void check(boolean so, String what) {
        if (!so) {
            wrong++;
            System.out.println(what);
        }
    }

    private static void checkMethods() {
        Set<String> seen = new TreeSet<>();
        Set<String> publicNames = new HashSet<>();
        Method[] methods = ParcelChutes.class.getDeclaredMethods();
        for (Method method : methods) {
            if (!Modifier.isPrivate(method.getModifiers())) {
                seen.add(method.toString());
                publicNames.add(method.getName());
            }
        }
        check(seen.equals(new TreeSet<>(Arrays.asList(FACE))), "the methods that can be seen are " + seen);
        for (Method method : methods) {
            boolean hidden = Modifier.isPrivate(method.getModifiers());
            check(!hidden || !publicNames.contains(method.getName()), "a private method bears the name " + method.getName());
        }
    }

    private static void checkConstructors() {
        Constructor<?>[] constructors = ParcelChutes.class.getDeclaredConstructors();
        check(constructors.length == 1 && constructors[0].toString().equals("public ParcelChutes()"),
                "the constructors are " + Arrays.toString(constructors));
    }

    private static void checkFields() {
        for (Field field : ParcelChutes.class.getDeclaredFields()) {
            check(Modifier.isPrivate(field.getModifiers()), "can be seen: " + field);
            check(!Modifier.isStatic(field.getModifiers()) || Modifier.isFinal(field.getModifiers()), "static and not final: " + field);
        }
    }

    public static void main(String[] args) {
        int modifiers = ParcelChutes.class.getModifiers();
        check(Modifier.isPublic(modifiers) && Modifier.isFinal(modifiers), "the class is not public and final");
        checkMethods();
        checkConstructors();
        checkFields();
        System.out.println(wrong == 0 ? "the face is the document's" : wrong + " things are not as the document's face");
        if (wrong != 0) {
            System.exit(1);
        }
    }
}
