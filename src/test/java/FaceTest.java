import java.lang.reflect.Constructor;
import java.lang.reflect.Field;
import java.lang.reflect.Method;
import java.lang.reflect.Modifier;
import java.util.TreeSet;

/** The public face: the document's constructor and methods with what they throw, and nothing else. */
public final class FaceTest {
    private static final String[] FACE = {
        "public int height(int,int) throws IndexOutOfBoundsException,IllegalArgumentException",
        "public int lode(int,int) throws IndexOutOfBoundsException,IllegalArgumentException",
        "public int sample(int) throws IndexOutOfBoundsException,IllegalStateException",
        "public boolean dig(int) throws IndexOutOfBoundsException",
        "public int stake(int,int,int)"
            + " throws IndexOutOfBoundsException,IllegalArgumentException,IllegalStateException",
        "public int work(int) throws IndexOutOfBoundsException,IllegalStateException",
        "public int pass(int) throws IllegalArgumentException,IllegalStateException",
        "public int rules(int,int) throws IllegalArgumentException",
        "public int heap(int,int) throws IllegalArgumentException,IllegalStateException",
        "public int mill()",
        "public int ofPlace(int,int) throws IndexOutOfBoundsException,IllegalArgumentException",
        "public int steps(int,int) throws IndexOutOfBoundsException",
        "public int ofClaim(int,int) throws IndexOutOfBoundsException,IllegalArgumentException",
        "public int field(int) throws IllegalArgumentException",
        "public String row(int) throws IndexOutOfBoundsException",
        "public int bestSample(boolean)",
        "public int worst(int) throws IndexOutOfBoundsException",
        "public int ditch(int,int,int) throws IndexOutOfBoundsException",
        "public String way(int,int,int) throws IndexOutOfBoundsException",
        "public int heapAt(int) throws IndexOutOfBoundsException",
        "public boolean isSound()",
        "public long digest()",
    };

    private FaceTest() {
    }

    public static void main(String[] args) {
        Checks.same("the class", "public final", Modifier.toString(Steplode.class.getModifiers()));
        methods();
        constructors();
        fields();
        classesInside();
        Checks.end();
    }

    private static void methods() {
        TreeSet<String> want = new TreeSet<>();
        TreeSet<String> names = new TreeSet<>();
        for (String method : FACE) {
            want.add(method);
        }
        TreeSet<String> got = new TreeSet<>();
        for (Method method : Steplode.class.getDeclaredMethods()) {
            if (!method.isSynthetic() && !Modifier.isPrivate(method.getModifiers())) {
                got.add(plain(method.toString()));
                names.add(method.getName());
            }
        }
        Checks.same("the methods", want.toString(), got.toString());
        for (Method method : Steplode.class.getDeclaredMethods()) {
            boolean isTwice = Modifier.isPrivate(method.getModifiers()) && names.contains(method.getName());
            Checks.same("a private method with the name of a public one: " + method, "false", "" + isTwice);
        }
    }

    private static String plain(String signature) {
        return signature.replace("java.lang.", "").replace("Steplode.", "");
    }

    private static void constructors() {
        Constructor<?>[] all = Steplode.class.getDeclaredConstructors();
        Checks.same("how many constructors", "1", "" + all.length);
        Checks.same("the constructor", "public Steplode()", all[0].toString());
    }

    private static void fields() {
        for (Field field : Steplode.class.getDeclaredFields()) {
            int modifiers = field.getModifiers();
            Checks.same("is private: " + field, "true", "" + Modifier.isPrivate(modifiers));
            boolean isState = Modifier.isStatic(modifiers) && !Modifier.isFinal(modifiers);
            Checks.same("static state: " + field, "false", "" + isState);
        }
    }

    private static void classesInside() {
        for (Class<?> inside : Steplode.class.getDeclaredClasses()) {
            int modifiers = inside.getModifiers();
            boolean isOwn = !Modifier.isPublic(modifiers) && !Modifier.isProtected(modifiers);
            Checks.same("is not of the face: " + inside, "true", "" + (isOwn && Modifier.isStatic(modifiers)));
        }
    }
}
