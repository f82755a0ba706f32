import java.lang.reflect.Field;
import java.lang.reflect.Method;
import java.lang.reflect.Modifier;
import java.util.Arrays;
import java.util.TreeSet;

/** The class shows the document's face, and beside it nothing that is not private. */
public final class FaceTest {
    private static final String[] METHODS = {
        "int lay()", "int make(int)", "int snap(int,int)", "int remove(int)",
        "int write(int,int,int,int,int)", "int read(int,int,int)", "int trim(int,int,int)",
        "int pieces(int)", "int next(int,int)", "int shared(int,int)", "int tell(int,int)",
        "int told(int)", "int keep(int,long)", "int fail()", "int mount()", "int count(int)",
        "int check()"};

    public static void main(String[] args) {
        Due due = new Due();
        due.isTrue("the class is public and final", Modifier.isPublic(ThinPool.class.getModifiers())
            && Modifier.isFinal(ThinPool.class.getModifiers()));
        due.same("constructors", ThinPool.class.getDeclaredConstructors().length, 1);
        due.isTrue("methods: " + openMethods(), openMethods().equals(new TreeSet<>(Arrays.asList(METHODS))));
        due.isTrue("fields: " + openFields(), openFields().equals(new TreeSet<>(Arrays.asList("BAD", "OFF", "FULL"))));
        due.isTrue("no private method has a public one's name", privateNamesAreTheirOwn());
        due.end();
    }

    private static TreeSet<String> openMethods() {
        TreeSet<String> found = new TreeSet<>();
        for (Method method : ThinPool.class.getDeclaredMethods()) {
            if (!Modifier.isPrivate(method.getModifiers())) {
                String parameters = Arrays.toString(method.getParameterTypes()).replaceAll("[\\[\\] ]", "");
                found.add(method.getReturnType() + " " + method.getName() + "(" + parameters + ")");
            }
        }
        return found;
    }

    private static TreeSet<String> openFields() {
        TreeSet<String> found = new TreeSet<>();
        for (Field field : ThinPool.class.getDeclaredFields()) {
            if (!Modifier.isPrivate(field.getModifiers())) {
                found.add(field.getName());
            }
        }
        return found;
    }

    private static boolean privateNamesAreTheirOwn() {
        for (Method method : ThinPool.class.getDeclaredMethods()) {
            for (String open : METHODS) {
                if (Modifier.isPrivate(method.getModifiers()) && open.startsWith("int " + method.getName() + "(")) {
                    return false;
                }
            }
        }
        return true;
    }
}
