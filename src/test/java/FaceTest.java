import java.io.IOException;
import java.lang.reflect.Constructor;
import java.lang.reflect.Field;
import java.lang.reflect.Method;
import java.lang.reflect.Modifier;
import java.nio.file.Files;
import java.nio.file.Path;
import java.util.Set;
import java.util.TreeSet;

/** The public face of the document, and those rules of LANGUAGE.md that a glance at the file can hold. */
public final class FaceTest {
    private static final Check CHECK = new Check();
    private static final Set<String> METHODS = Set.of(
            "int type(int)", "int clear()", "int rule()", "int link(int,int)", "int joint(int,int)",
            "int mark(int)", "int now(int)", "int bends(int)", "int files(int,int)", "int turned()",
            "int undo()", "int box(int,int)", "int end(int)", "int measures(int)", "int odds(int,int,int)",
            "int sees(int,int)", "int forget()", "int ways(int)", "int next()", "int rate(int,int)",
            "int keep(int)", "int back(int)", "int count(int)", "long trace()");
    private static final Set<String> CONSTANTS = Set.of("BAD", "STATE", "FULL", "NONE", "NO");
    private static final String[] RULED_OUT = {
        "import ", "throw ", "try ", "catch ", "synchronized", "assert ", "->", "::", "Exact(", "package ",
        "java.", "static {", "while (true)", "for (;;)", "hashCode", "toString", "double", "float", "System.",
    };
    private static final int MAX_PARAMETERS = 7;
    private static final int MAX_FIELDS = 20;

    public static void main(String[] args) throws IOException {
        face();
        nestedClasses();
        constants();
        source();
        CHECK.finish();
    }

    private static String told(Method method) {
        StringBuilder line = new StringBuilder();
        for (Class<?> parameter : method.getParameterTypes()) {
            line.append(line.length() == 0 ? "" : ",").append(parameter.getName());
        }
        return method.getReturnType().getName() + " " + method.getName() + "(" + line + ")";
    }

    private static void face() {
        Set<String> found = new TreeSet<>();
        for (Method method : FoldRule.class.getDeclaredMethods()) {
            if (!Modifier.isPrivate(method.getModifiers())) {
                found.add(told(method));
            }
        }
        CHECK.holds("the methods are those of the document: " + found, found.equals(METHODS));
        for (Field field : FoldRule.class.getDeclaredFields()) {
            CHECK.holds("field " + field.getName() + " is private or of the face",
                    Modifier.isPrivate(field.getModifiers()) || CONSTANTS.contains(field.getName()));
            CHECK.holds("field " + field.getName() + " is final", Modifier.isFinal(field.getModifiers()));
        }
        Constructor<?>[] made = FoldRule.class.getConstructors();
        CHECK.holds("one constructor without parameters", made.length == 1 && made[0].getParameterCount() == 0);
        CHECK.holds("the class is final", Modifier.isFinal(FoldRule.class.getModifiers()));
    }

    private static void nestedClasses() {
        CHECK.holds("some twelve classes", FoldRule.class.getDeclaredClasses().length <= 11);
        ownMembers(FoldRule.class);
        for (Class<?> inside : FoldRule.class.getDeclaredClasses()) {
            int how = inside.getModifiers();
            CHECK.holds(inside + " is static", Modifier.isStatic(how));
            CHECK.holds(inside + " is not for others", !Modifier.isPublic(how) && !Modifier.isProtected(how));
            ownMembers(inside);
        }
    }

    private static Set<String> namesOfTheFace() {
        Set<String> names = new TreeSet<>();
        for (String method : METHODS) {
            names.add(method.substring(method.indexOf(' ') + 1, method.indexOf('(')));
        }
        return names;
    }

    /** A class's methods beside the face, and its fields. */
    private static void ownMembers(Class<?> owner) {
        Set<String> names = namesOfTheFace();
        for (Method method : owner.getDeclaredMethods()) {
            CHECK.holds(method + " bears no name of the face",
                    !names.contains(method.getName()) || METHODS.contains(told(method)));
            CHECK.holds(method + " has seven parameters at most", method.getParameterCount() <= MAX_PARAMETERS);
        }
        int fields = 0;
        for (Field field : owner.getDeclaredFields()) {
            boolean isStatic = Modifier.isStatic(field.getModifiers());
            CHECK.holds(field + " is final if it is static", !isStatic || Modifier.isFinal(field.getModifiers()));
            fields += isStatic ? 0 : 1;
        }
        CHECK.holds(owner + " has some twenty fields", fields <= MAX_FIELDS);
    }

    private static void constants() {
        CHECK.due("BAD", FoldRule.BAD, -1);
        CHECK.due("STATE", FoldRule.STATE, -2);
        CHECK.due("FULL", FoldRule.FULL, -3);
        CHECK.due("NONE", FoldRule.NONE, -9);
        CHECK.due("NO", FoldRule.NO, -1000000);
    }

    private static void source() throws IOException {
        String source = Files.readString(Path.of("src/main/java/FoldRule.java"));
        for (String word : RULED_OUT) {
            CHECK.holds("the file has no '" + word + "'", !source.contains(word));
        }
    }
}
