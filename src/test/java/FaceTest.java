import java.lang.reflect.Constructor;
import java.lang.reflect.Field;
import java.lang.reflect.Method;
import java.lang.reflect.Modifier;
import java.util.Arrays;
import java.util.Set;
import java.util.TreeSet;

/** The public face is the document's and nothing else; the classes inside keep the language's rules. */
public final class FaceTest {
    private static final String[] FACE = {
        "int row(int,int,int)", "int set(int,int,int)", "int copy(int,int,int,int,int)", "int drop(int)",
        "int feed(long,int)", "int hill()", "int fault()", "int pass(int)", "int waits(int)", "int bribe(int)",
        "int undo()", "int trader(int,int)", "int takes(int,int)", "int there(int,int,int)", "int worth(int,int)",
        "int sure(int,int)", "int most(int,int,int)", "int last(int)", "int crow(int)",
        "int where(int,int,int,int)", "int image(int)", "int restore(int)", "int kind(int)", "int as(int,int)",
        "int ask(int,int)", "int trace(int)", "int count(int)", "int status()"};

    private FaceTest() {
    }

    public static void main(String[] args) throws Exception {
        Checks.due(1, "NONE", BirchLeaf.NONE, -1000000);
        Checks.due(1, "BAD", BirchLeaf.BAD, -1000001);
        Checks.due(1, "STATE", BirchLeaf.STATE, -1000002);
        Checks.due(1, "FULL", BirchLeaf.FULL, -1000003);
        Class<?> face = BirchLeaf.class;
        Checks.that("public and final", Modifier.isPublic(face.getModifiers()) && Modifier.isFinal(face.getModifiers()));
        methods(face);
        fields(face);
        Constructor<?>[] made = face.getDeclaredConstructors();
        Checks.that("one public constructor", made.length == 1 && Modifier.isPublic(made[0].getModifiers())
                && made[0].getParameterCount() == 0);
        Class<?>[] inside = face.getDeclaredClasses();
        Checks.that("some twelve classes at most", inside.length < 12);
        for (Class<?> one : inside) {
            inside(one);
        }
        Checks.end("FaceTest");
    }

    private static void methods(Class<?> face) {
        Set<String> open = new TreeSet<>();
        for (Method method : face.getDeclaredMethods()) {
            if (!Modifier.isPrivate(method.getModifiers())) {
                open.add(told(method));
                Checks.that(method + " is public and no more", method.getModifiers() == Modifier.PUBLIC);
            } else {
                ownName(method);
            }
        }
        Checks.that("the document's methods: " + open, open.equals(new TreeSet<>(Arrays.asList(FACE))));
    }

    private static String told(Method method) {
        StringBuilder text = new StringBuilder();
        for (Class<?> type : method.getParameterTypes()) {
            text.append(text.length() == 0 ? "" : ",").append(type.getName());
        }
        return method.getReturnType().getName() + " " + method.getName() + "(" + text + ")";
    }

    private static void ownName(Method method) {
        for (String one : FACE) {
            Checks.that(method + " bears no public name", !one.startsWith("int " + method.getName() + "("));
        }
        Checks.that(method + " has seven parameters at most", method.getParameterCount() <= 7);
    }

    private static void fields(Class<?> face) {
        Set<String> open = new TreeSet<>();
        for (Field field : face.getDeclaredFields()) {
            if (!Modifier.isPrivate(field.getModifiers())) {
                open.add(field.getName());
                Checks.that(field + " is a constant", field.getModifiers()
                        == (Modifier.PUBLIC | Modifier.STATIC | Modifier.FINAL));
            }
        }
        Checks.that("the document's constants: " + open,
                open.equals(new TreeSet<>(Arrays.asList("NONE", "BAD", "STATE", "FULL"))));
        ownFields(face);
    }

    private static void ownFields(Class<?> one) {
        int own = 0;
        for (Field field : one.getDeclaredFields()) {
            boolean shared = Modifier.isStatic(field.getModifiers());
            own += shared ? 0 : 1;
            Checks.that(field + " is final if static", !shared || Modifier.isFinal(field.getModifiers()));
        }
        Checks.that(one + " has some twenty fields at most", own <= 20);
    }

    private static void inside(Class<?> one) {
        int how = one.getModifiers();
        Checks.that(one + " is static", Modifier.isStatic(how));
        Checks.that(one + " is no part of the face", !Modifier.isPublic(how) && !Modifier.isProtected(how));
        ownFields(one);
        for (Method method : one.getDeclaredMethods()) {
            ownName(method);
            Checks.that(method + " hides nothing of Object", !Arrays.asList("equals", "hashCode", "toString")
                    .contains(method.getName()));
        }
    }
}
