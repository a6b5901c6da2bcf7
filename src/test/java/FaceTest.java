import java.io.IOException;
import java.lang.reflect.Array;
import java.lang.reflect.Constructor;
import java.lang.reflect.Field;
import java.lang.reflect.Method;
import java.lang.reflect.Modifier;
import java.nio.file.Files;
import java.nio.file.Path;
import java.util.ArrayDeque;
import java.util.ArrayList;
import java.util.Arrays;
import java.util.Collections;
import java.util.IdentityHashMap;
import java.util.List;
import java.util.Set;
import java.util.TreeSet;

/** The class's face, what its classes hold, and the room that an object takes; RulesTest looks at the rest of LANGUAGE.md. */
public final class FaceTest {
    /** The room of one run is 600,000 objects and arrays, 7.3 million fields and elements: a thousand of these fit. */
    private static final int MOST_OBJECTS = 600, MOST_PARTS = 7300;
    private static final Due due = new Due();
    private static final String[] METHODS = {"int flake(int,int,int,int,int)", "int melt(int)", "int stand(int,int)",
        "int air(int,int)", "int say(int)", "int wipe()", "int fault()", "int judge(int)", "int behind(int,int)",
        "int stands(int,int)", "int posted(int)", "int done()", "int says(int)", "long grew(int,int,int,int)",
        "int soon(int,int)", "int most(int)", "int patch(int)", "int seen(int,int)", "int forget()", "int laws(int)",
        "int look(int)", "long gusts(int,int,int,int,int,int)", "int spoon(int,int)", "int year(int,int,int)",
        "int image(int)", "int restore(int)", "int told(int)"};
    private static final String[] FIELDS = {"int UNKNOWN = -1", "int OUTSIDE = -2", "int STATE = -3", "int FULL = -4",
        "int NO = -5", "int NONE = -6", "long GONE = -1000000000000000000"};

    public static void main(String[] args) throws IOException, IllegalAccessException {
        face();
        inside();
        room(new FlakePost());
        String source = Files.readString(Path.of("src/main/java/FlakePost.java"));
        due.holds("signs are 1 to 127", source.chars().allMatch(sign -> sign > 0 && sign < 128));
        due.end();
    }

    private static String shape(Method method) {
        String types = Arrays.toString(method.getParameterTypes()).replaceAll("[\\[\\] ]", "");
        return method.getReturnType() + " " + method.getName() + "(" + types + ")";
    }

    private static void face() throws IllegalAccessException {
        TreeSet<String> seen = new TreeSet<>();
        TreeSet<String> names = new TreeSet<>();
        for (Method method : FlakePost.class.getDeclaredMethods()) {
            if (!Modifier.isPrivate(method.getModifiers())) {
                due.is("modifiers of " + shape(method), method.getModifiers(), Modifier.PUBLIC);
                seen.add(shape(method));
                names.add(method.getName());
            }
        }
        due.holds("the methods are those of the document: " + seen, seen.equals(new TreeSet<>(List.of(METHODS))));
        TreeSet<String> constants = new TreeSet<>();
        for (Field field : FlakePost.class.getDeclaredFields()) {
            if (!Modifier.isPrivate(field.getModifiers())) {
                due.is("modifiers of " + field, field.getModifiers(), Modifier.PUBLIC | Modifier.STATIC | Modifier.FINAL);
                constants.add(field.getType() + " " + field.getName() + " = " + field.get(null));
            }
        }
        due.holds("the constants are those of the document: " + constants, constants.equals(new TreeSet<>(List.of(FIELDS))));
        Constructor<?>[] constructors = FlakePost.class.getDeclaredConstructors();
        due.is("constructors", constructors.length, 1);
        due.is("its parameters", constructors[0].getParameterCount(), 0);
        due.is("its modifiers", constructors[0].getModifiers(), Modifier.PUBLIC);
        due.is("modifiers of the class", FlakePost.class.getModifiers(), Modifier.PUBLIC | Modifier.FINAL);
        for (Class<?> type : withThoseInside()) {
            for (Method method : type.getDeclaredMethods()) {
                due.holds("no private method bears a public one's name: " + method,
                    !Modifier.isPrivate(method.getModifiers()) || !names.contains(method.getName()));
            }
        }
    }

    private static List<Class<?>> withThoseInside() {
        List<Class<?>> all = new ArrayList<>(List.of(FlakePost.class.getDeclaredClasses()));
        all.add(FlakePost.class);
        return all;
    }

    private static void inside() {
        due.holds("at most twelve classes", withThoseInside().size() <= 12);
        for (Class<?> type : withThoseInside()) {
            due.holds(type + " is static", type == FlakePost.class || Modifier.isStatic(type.getModifiers()));
            int fields = 0;
            for (Field field : type.getDeclaredFields()) {
                if (Modifier.isStatic(field.getModifiers())) {
                    due.holds(field + " is final", Modifier.isFinal(field.getModifiers()));
                } else {
                    fields++;
                }
            }
            due.holds("at most twenty fields: " + type, fields <= 20);
        }
    }

    /** All that an object holds is made with it, so this is what it takes for all its calls. */
    private static void room(FlakePost post) throws IllegalAccessException {
        Set<Object> objects = Collections.newSetFromMap(new IdentityHashMap<>());
        ArrayDeque<Object> next = new ArrayDeque<>(List.of(post));
        int parts = 0;
        while (!next.isEmpty()) {
            Object object = next.poll();
            if (objects.add(object)) {
                List<Object> held = object.getClass().isArray() ? elements(object) : fields(object);
                parts += held.size();
                held.stream().filter(part -> part != null && (part.getClass().isArray() || isOwn(part))).forEach(next::add);
            }
        }
        due.holds("objects and arrays: " + objects.size(), objects.size() <= MOST_OBJECTS);
        due.holds("fields and elements: " + parts, parts <= MOST_PARTS);
    }

    private static boolean isOwn(Object object) {
        return object.getClass().getName().startsWith("FlakePost");
    }

    private static List<Object> elements(Object array) {
        List<Object> all = new ArrayList<>();
        for (int i = 0; i < Array.getLength(array); i++) {
            all.add(Array.get(array, i));
        }
        return all;
    }

    private static List<Object> fields(Object object) throws IllegalAccessException {
        List<Object> all = new ArrayList<>();
        for (Field field : object.getClass().getDeclaredFields()) {
            if (!Modifier.isStatic(field.getModifiers())) {
                field.setAccessible(true);
                all.add(field.get(object));
            }
        }
        return all;
    }
}
