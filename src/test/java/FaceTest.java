import java.lang.reflect.Constructor;
import java.lang.reflect.Field;
import java.lang.reflect.Method;
import java.lang.reflect.Modifier;
import java.util.Arrays;
import java.util.TreeSet;

/** The class shows the document's constructor and methods and nothing else. */
public final class FaceTest {
    private static final String[] FACE = {
        "blocks()", "receive(int,int)", "draw(int,int)", "lose(int)", "setOf(int)", "symbols()",
        "consistent()", "rank()", "known()", "value(int)", "sumOf(int)", "peeled()", "isSeed(int)",
        "seedSize()", "seed()", "spare()", "useful()"
    };

    private static int wrong = 0;

    private static void due(String what, Object got, Object want) {
        if (!got.equals(want)) {
            wrong++;
            System.out.println(what + " is " + got + ", due is " + want);
        }
    }

    private static String signature(Method method) {
        StringBuilder text = new StringBuilder();
        for (Class<?> type : method.getParameterTypes()) {
            text.append(text.length() == 0 ? "" : ",").append(type.getName());
        }
        return method.getName() + "(" + text + ")";
    }

    private static void testMethods() {
        TreeSet<String> shown = new TreeSet<>();
        TreeSet<String> shownNames = new TreeSet<>();
        for (Method method : FountainDecoder.class.getDeclaredMethods()) {
            if (!Modifier.isPrivate(method.getModifiers())) {
                shown.add(signature(method));
                shownNames.add(method.getName());
                due(method.getName() + " modifiers", method.getModifiers(), Modifier.PUBLIC);
                due(method.getName() + " answer type", method.getReturnType(), int.class);
            }
        }
        due("the public methods", shown, new TreeSet<>(Arrays.asList(FACE)));
        for (Method method : FountainDecoder.class.getDeclaredMethods()) {
            if (Modifier.isPrivate(method.getModifiers())) {
                due("private " + method.getName() + " has a public name",
                        shownNames.contains(method.getName()), false);
            }
        }
    }

    private static void testConstructorAndFields() {
        Constructor<?>[] constructors = FountainDecoder.class.getDeclaredConstructors();
        due("number of constructors", constructors.length, 1);
        due("constructor", Arrays.asList(constructors[0].getParameterTypes()), Arrays.asList(int.class));
        due("constructor is public", Modifier.isPublic(constructors[0].getModifiers()), true);
        for (Field field : FountainDecoder.class.getDeclaredFields()) {
            due(field.getName() + " is private", Modifier.isPrivate(field.getModifiers()), true);
        }
        due("class modifiers", FountainDecoder.class.getModifiers(), Modifier.PUBLIC | Modifier.FINAL);
        due("number of nested classes", FountainDecoder.class.getDeclaredClasses().length, 0);
    }

    public static void main(String[] args) {
        testMethods();
        testConstructorAndFields();
        System.out.println(wrong == 0 ? "the face is as due" : wrong + " faults in the face");
        if (wrong != 0) {
            System.exit(1);
        }
    }
}
