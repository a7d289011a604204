import java.io.IOException;
import java.lang.reflect.Array;
import java.lang.reflect.Field;
import java.lang.reflect.Modifier;
import java.nio.file.Files;
import java.nio.file.Path;
import java.util.ArrayDeque;
import java.util.Collections;
import java.util.IdentityHashMap;
import java.util.Set;

/** All calls live in one room: an object is small, and no call makes an object. */
public final class RoomTest {
    private static final Check CHECK = new Check();
    private static final int MAX_OBJECTS = 100;
    private static final int MAX_ELEMENTS = 2000;

    public static void main(String[] args) throws IOException, IllegalAccessException {
        FoldRule x = new FoldRule();
        Set<Object> made = allOf(x);
        int elements = elementsOf(made);
        CHECK.holds(made.size() + " objects are " + MAX_OBJECTS + " at most", made.size() <= MAX_OBJECTS);
        CHECK.holds(elements + " elements are " + MAX_ELEMENTS + " at most", elements <= MAX_ELEMENTS);
        use(x);
        Set<Object> later = allOf(x);
        CHECK.holds("behind all calls it is the same objects",
                later.size() == made.size() && made.containsAll(later));
        onlyConstructorsMake();
        CHECK.finish();
    }

    /** Every call, with as much kept as can be. */
    private static void use(FoldRule x) {
        for (int round = 0; round < 2; round++) {
            Check.typeAll(x, "k20;".repeat(9) + "f0;x7;");
            CHECK.due("rule()", x.rule(), 11);
            for (int i = 0; i < 12; i++) {
                x.bends(i % 7);
                x.files(i % 9, 1);
                x.turned();
                x.turned();
            }
            x.undo();
            x.keep(0);
            x.keep(1);
            x.back(0);
            for (int i = 0; i < 7; i++) {
                x.sees(0, 150);
                x.rate(i, i);
                x.now(i);
                x.count(i);
                x.link(i, 1);
                x.joint(i, 0);
                x.mark(i);
            }
            x.box(90, 1);
            x.end(20);
            x.measures(40);
            x.odds(5, 90, 0);
            x.ways(1);
            x.next();
            x.forget();
            x.next();
            x.trace();
            x.type('y');
            x.rule();
            x.clear();
        }
    }

    private static Set<Object> allOf(Object first) throws IllegalAccessException {
        Set<Object> known = Collections.newSetFromMap(new IdentityHashMap<>());
        ArrayDeque<Object> open = new ArrayDeque<>();
        known.add(first);
        open.add(first);
        while (!open.isEmpty()) {
            Object one = open.removeFirst();
            if (one instanceof Object[] row) {
                for (Object part : row) {
                    note(part, known, open);
                }
            } else if (!one.getClass().isArray()) {
                for (Field field : one.getClass().getDeclaredFields()) {
                    if (!Modifier.isStatic(field.getModifiers()) && !field.getType().isPrimitive()) {
                        field.setAccessible(true);
                        note(field.get(one), known, open);
                    }
                }
            }
        }
        return known;
    }

    private static void note(Object part, Set<Object> known, ArrayDeque<Object> open) {
        if (part != null && known.add(part)) {
            open.add(part);
        }
    }

    private static int elementsOf(Set<Object> objects) {
        int elements = 0;
        for (Object one : objects) {
            elements += one.getClass().isArray() ? Array.getLength(one) : one.getClass().getDeclaredFields().length;
        }
        return elements;
    }

    /** What a call makes and drops again is not found by looking at the object, only by reading the file. */
    private static void onlyConstructorsMake() throws IOException {
        for (String line : Files.readAllLines(Path.of("src/main/java/FoldRule.java"))) {
            String code = line.strip();
            boolean isComment = code.startsWith("/") || code.startsWith("*");
            if (!isComment && (code.contains("new ") || code.contains("clone(") || code.contains("copyOf("))) {
                CHECK.holds("made in a constructor: " + code,
                        code.startsWith("private final ") || code.equals("steps[i] = new Strip();"));
            }
        }
    }
}
