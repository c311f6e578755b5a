import java.lang.reflect.Constructor;
import java.lang.reflect.Field;
import java.lang.reflect.Method;
import java.lang.reflect.Modifier;
import java.util.Arrays;
import java.util.Set;
import java.util.TreeSet;

/** The public face: the constant, the constructor and the methods of the document, and nothing else. */
public final class FaceTest {
    private static final Check CHECK = new Check("FaceTest");
    private static final Set<String> FACE = new TreeSet<>(Arrays.asList(
        "int feed(int,int,int,int,int)", "int text(int)", "int rect(int,int)",
        "int square(int,int,int) throws java.util.NoSuchElementException", "int laid(int)", "long area(int)",
        "int least(int)", "int print(int)", "int at(int)", "int groups(int)", "long trees(int)",
        "int current(int,int)", "int level(int,int)", "int layings(int)", "int lines(int)",
        "int line(int,int,int) throws java.util.NoSuchElementException", "int side(int,int,boolean)",
        "int alike(int,int)", "int join(int,int,boolean)", "int grow(int,boolean)", "int turn(int,int)",
        "int times(int,int)", "int lessen(int)", "int undo()", "boolean keep(int,boolean)", "int count(int)"));

    public static void main(String[] args) {
        CHECK.due("NONE", SquareCuts.NONE, -1);
        CHECK.due("public and final", SquareCuts.class.getModifiers(), Modifier.PUBLIC | Modifier.FINAL);
        methods();
        constructors();
        fields();
        nestedClasses();
        CHECK.end();
    }

    private static void methods() {
        Set<String> shown = new TreeSet<>();
        Set<String> publicNames = new TreeSet<>();
        for (Method method : SquareCuts.class.getDeclaredMethods()) {
            if (!Modifier.isPrivate(method.getModifiers())) {
                shown.add(method.toGenericString().replace("public ", "").replace("SquareCuts.", ""));
                publicNames.add(method.getName());
            }
        }
        CHECK.due("the methods", shown.toString(), FACE.toString());
        for (Method method : SquareCuts.class.getDeclaredMethods()) {
            boolean clashes = Modifier.isPrivate(method.getModifiers()) && publicNames.contains(method.getName());
            CHECK.due("a private " + method.getName() + " beside a public one", clashes, false);
        }
    }

    private static void constructors() {
        Constructor<?>[] all = SquareCuts.class.getDeclaredConstructors();
        CHECK.due("constructors", all.length, 1);
        CHECK.due("the constructor", all[0].toString(), "public SquareCuts()");
    }

    private static void fields() {
        for (Field field : SquareCuts.class.getDeclaredFields()) {
            int modifiers = field.getModifiers();
            boolean isConstant = field.getName().equals("NONE");
            CHECK.due(field.getName() + " is private", Modifier.isPrivate(modifiers), !isConstant);
            CHECK.due(field.getName() + " is final where static",
                !Modifier.isStatic(modifiers) || Modifier.isFinal(modifiers), true);
        }
    }

    private static void nestedClasses() {
        Class<?>[] nested = SquareCuts.class.getDeclaredClasses();
        CHECK.due("at most twelve classes", nested.length + 1 <= 12, true);
        for (Class<?> one : nested) {
            int modifiers = one.getModifiers();
            CHECK.due(one + " is static", Modifier.isStatic(modifiers), true);
            CHECK.due(one + " is not shown", Modifier.isPublic(modifiers) || Modifier.isProtected(modifiers), false);
            for (Method method : one.getDeclaredMethods()) {
                CHECK.due(method + " has seven parameters at most", method.getParameterCount() <= 7, true);
            }
        }
    }
}
