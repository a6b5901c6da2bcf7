import java.io.IOException;
import java.lang.reflect.Constructor;
import java.lang.reflect.Field;
import java.lang.reflect.Method;
import java.lang.reflect.Modifier;
import java.nio.file.Files;
import java.nio.file.Path;
import java.util.Arrays;
import java.util.List;
import java.util.TreeSet;
import java.util.regex.Matcher;
import java.util.regex.Pattern;

/** The class's face, and those rules of LANGUAGE.md that can be seen from the text or by reflection. */
public final class LanguageTest {
    private static final Due due = new Due();
    private static final String[] METHODS = {"int flake(int,int,int,int,int)", "int melt(int)", "int stand(int,int)",
        "int air(int,int)", "int say(int)", "int wipe()", "int fault()", "int judge(int)", "int behind(int,int)",
        "int stands(int,int)", "int posted(int)", "int done()", "int says(int)", "long grew(int,int,int,int)",
        "int soon(int,int)", "int most(int)", "int patch(int)", "int seen(int,int)", "int forget()", "int laws(int)",
        "int look(int)", "long gusts(int,int,int,int,int,int)", "int spoon(int,int)", "int year(int,int,int)",
        "int image(int)", "int restore(int)", "int told(int)"};
    private static final String[] FIELDS = {"int UNKNOWN = -1", "int OUTSIDE = -2", "int STATE = -3", "int FULL = -4",
        "int NO = -5", "int NONE = -6", "long GONE = -1000000000000000000"};
    private static final String[] BANNED = {"throw", "throws", "try", "catch", "finally", "synchronized", "assert", "package",
        "::", "Exact", "Object", "hashCode", "System.out", "Thread", "Random", "nanoTime", "currentTimeMillis"};

    public static void main(String[] args) throws IOException, IllegalAccessException {
        face();
        inside();
        text(Files.readString(Path.of("src/main/java/FlakePost.java")));
        due.end();
    }

    private static String shape(Method method) {
        String types = Arrays.toString(method.getParameterTypes()).replaceAll("[\\[\\] ]", "");
        return method.getReturnType() + " " + method.getName() + "(" + types + ")";
    }

    private static void face() throws IllegalAccessException {
        TreeSet<String> seen = new TreeSet<>();
        TreeSet<String> names = new TreeSet<>();
        for (Method method : FlakePost.class.getDeclaredMethods()) {
            if (!Modifier.isPrivate(method.getModifiers())) {
                due.is("modifiers of " + shape(method), method.getModifiers(), Modifier.PUBLIC);
                seen.add(shape(method));
                names.add(method.getName());
            }
        }
        due.holds("the methods are those of the document: " + seen, seen.equals(new TreeSet<>(List.of(METHODS))));
        TreeSet<String> constants = new TreeSet<>();
        for (Field field : FlakePost.class.getDeclaredFields()) {
            if (!Modifier.isPrivate(field.getModifiers())) {
                due.is("modifiers of " + field, field.getModifiers(), Modifier.PUBLIC | Modifier.STATIC | Modifier.FINAL);
                constants.add(field.getType() + " " + field.getName() + " = " + field.get(null));
            }
        }
        due.holds("the constants are those of the document: " + constants, constants.equals(new TreeSet<>(List.of(FIELDS))));
        Constructor<?>[] constructors = FlakePost.class.getDeclaredConstructors();
        due.is("constructors", constructors.length, 1);
        due.is("its parameters", constructors[0].getParameterCount(), 0);
        due.is("its modifiers", constructors[0].getModifiers(), Modifier.PUBLIC);
        due.is("modifiers of the class", FlakePost.class.getModifiers(), Modifier.PUBLIC | Modifier.FINAL);
        for (Class<?> type : withThoseInside()) {
            for (Method method : type.getDeclaredMethods()) {
                due.holds("no private method bears a public one's name: " + method,
                    !Modifier.isPrivate(method.getModifiers()) || !names.contains(method.getName()));
                due.holds("at most seven parameters: " + method, method.getParameterCount() <= 7);
            }
        }
    }

    private static List<Class<?>> withThoseInside() {
        List<Class<?>> all = new java.util.ArrayList<>(List.of(FlakePost.class.getDeclaredClasses()));
        all.add(FlakePost.class);
        return all;
    }

    private static void inside() {
        due.holds("at most twelve classes", withThoseInside().size() <= 12);
        for (Class<?> type : withThoseInside()) {
            due.holds(type + " is static", type == FlakePost.class || Modifier.isStatic(type.getModifiers()));
            int fields = 0;
            for (Field field : type.getDeclaredFields()) {
                if (Modifier.isStatic(field.getModifiers())) {
                    due.holds(field + " is final", Modifier.isFinal(field.getModifiers()));
                } else {
                    fields++;
                }
            }
            due.holds("at most twenty fields: " + type, fields <= 20);
        }
    }

    private static void text(String source) {
        String code = source.replaceAll("(?s)/\\*.*?\\*/", "").replaceAll("//[^\n]*", "");
        for (String word : BANNED) {
            String edge = word.matches("\\w.*") ? "\\b" : "";
            Matcher found = Pattern.compile(edge + Pattern.quote(word) + (word.equals("Exact") ? "" : edge)).matcher(code);
            due.holds("no '" + word + "'", !found.find());
        }
        due.holds("signs are 1 to 127", source.chars().allMatch(sign -> sign > 0 && sign < 128));
        Matcher imports = Pattern.compile("import ([\\w.*]+);").matcher(code);
        while (imports.find()) {
            due.holds("import of " + imports.group(1), imports.group(1).equals("java.util.Arrays"));
        }
        for (String line : code.split("\n")) {
            due.holds("no lambda: " + line, !line.contains("->") || line.matches(" *(case [^>]*|default) *->.*"));
        }
        int lines = 0;
        for (String line : code.split("\n")) {
            lines = line.matches(" +(public|private).*\\) \\{") ? 0 : lines + 1;
            due.holds("methods stay short: " + line, lines <= 60 || line.isBlank() || !line.startsWith("        "));
        }
    }
}
