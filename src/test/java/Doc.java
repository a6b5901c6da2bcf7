import java.lang.reflect.Constructor;
import java.lang.reflect.InvocationTargetException;
import java.lang.reflect.Method;
import java.util.HashMap;
import java.util.Map;
import java.util.TreeMap;
import java.util.regex.Matcher;
import java.util.regex.Pattern;

/**
 * Sentences of the document, each with runs of calls whose answers would be others if the sentence did not hold.
 *
 * <p>A run is a text of steps, one on a line or parted by semicolons, on new objects:
 * <pre>
 *   say(99) = 1              a call, and the answer that is due (without one: it is only made)
 *   told(10..12) = 24 0 9    a call for each number from .. to, an answer for each, or one for all
 *   say 'Au.'                all signs of a text are said; pad 'Au.' wipes ahead of that
 *   keep                     what the object shows is kept;
 *   same                     it must be the same now
 *   b.wipe() = 0             another object, by a letter ahead of a step
 * </pre>
 * Numbers: LEAST and MOST are those of int, 'A' is the number of a sign, and the constants have their names.
 */
final class Doc {
    /** What later calls of one object answer is free, so no test may look at it. */
    private static final int MOST_CALLS = 512;
    private static final int MOST_PRINTED = 5;
    private static final Map<String, Long> NAMED = Map.of("UNKNOWN", -1L, "OUTSIDE", -2L, "STATE", -3L, "FULL", -4L,
        "NO", -5L, "NONE", -6L, "GONE_OUTSIDE", -1000000000000000002L, "LEAST", (long) Integer.MIN_VALUE,
        "MOST", (long) Integer.MAX_VALUE);
    private static final Pattern CALL = Pattern.compile("(\\w+)\\(([^)]*)\\)(?: *= *(.+))?");
    private static final Pattern TEXT = Pattern.compile("(say|pad) '(.*)'");

    private final Map<String, Method> methods = new HashMap<>();
    private final Constructor<?> constructor;
    private Map<Character, Used> objects = new TreeMap<>();
    private String part = "";
    private String sentence = "";
    private int sentences = 0;
    private int answers = 0;
    private int wrong = 0;
    private int wrongOfSentence = 0;

    /** One object, how often it was called, and what it showed. */
    private static final class Used {
        private final Object object;
        private int calls = 0;
        private String kept = "";

        private Used(Object object) {
            this.object = object;
        }
    }

    /** -Dof=Model holds the Model against the same sentences. */
    Doc() {
        try {
            Class<?> type = Class.forName(System.getProperty("of", "FlakePost"));
            for (Method method : type.getDeclaredMethods()) {
                methods.put(method.getName(), method);
            }
            constructor = type.getDeclaredConstructor();
        } catch (ReflectiveOperationException missing) {
            throw new IllegalStateException(missing);
        }
    }

    void terms(int paragraph) {
        part = "terms " + paragraph;
    }

    void promise(int number) {
        part = "promise " + number;
    }

    void says(String words, String... runs) {
        sentence = part + ", '" + words + "'";
        sentences++;
        wrongOfSentence = 0;
        int before = answers;
        for (String run : runs) {
            objects = new TreeMap<>();
            for (String step : run.split("[;\n]")) {
                if (!step.isBlank()) {
                    take(step.strip());
                }
            }
        }
        if (answers == before) {
            fail("no answer was looked at");
        }
    }

    void end() {
        System.out.println(sentences + " sentences, " + answers + " answers looked at, " + wrong + " not as due");
        if (wrong != 0 || sentences == 0) {
            System.exit(1);
        }
    }

    private void fail(String message) {
        wrong++;
        wrongOfSentence++;
        if (wrongOfSentence <= MOST_PRINTED) {
            System.out.println(sentence + ": " + message);
        }
    }

    private void take(String step) {
        boolean other = step.length() > 1 && step.charAt(1) == '.';
        Used used = objects.computeIfAbsent(other ? step.charAt(0) : 'a', letter -> new Used(make()));
        String rest = other ? step.substring(2) : step;
        Matcher call = CALL.matcher(rest);
        Matcher text = TEXT.matcher(rest);
        if (rest.equals("keep")) {
            used.kept = shown(used);
        } else if (rest.equals("same")) {
            answers++;
            String now = shown(used);
            if (!now.equals(used.kept)) {
                fail("it showed\n    " + used.kept + "\n  and now\n    " + now);
            }
        } else if (text.matches()) {
            sayAll(used, text.group(1).equals("pad"), text.group(2));
        } else if (call.matches()) {
            calls(used, call.group(1), call.group(2), call.group(3));
        } else {
            throw new IllegalStateException("no step: " + step);
        }
    }

    private void sayAll(Used used, boolean wiped, String signs) {
        if (wiped) {
            call(used, "wipe");
        }
        for (int at = 0; at < signs.length(); at++) {
            call(used, "say", signs.charAt(at));
        }
    }

    private void calls(Used used, String name, String told, String wants) {
        String[] parts = told.isBlank() ? new String[0] : told.split(",");
        int[] arguments = new int[parts.length];
        int ranged = -1;
        int last = 0;
        for (int i = 0; i < parts.length; i++) {
            String[] ends = parts[i].strip().split("\\.\\.");
            arguments[i] = (int) number(ends[0]);
            if (ends.length == 2) {
                ranged = i;
                last = (int) number(ends[1]);
            }
        }
        String[] want = wants == null ? new String[0] : wants.strip().split(" +");
        int rounds = ranged < 0 ? 1 : last - arguments[ranged] + 1;
        if (want.length > 1 && want.length != rounds) {
            throw new IllegalStateException(rounds + " answers are due of " + name + "(" + told + ")");
        }
        for (int round = 0; round < rounds; round++) {
            long got = call(used, name, arguments);
            if (want.length > 0) {
                look(name, arguments, got, number(want[want.length == 1 ? 0 : round]));
            }
            if (ranged >= 0) {
                arguments[ranged]++;
            }
        }
    }

    private void look(String name, int[] arguments, long got, long want) {
        answers++;
        if (got != want) {
            StringBuilder call = new StringBuilder(name).append('(');
            for (int i = 0; i < arguments.length; i++) {
                call.append(i == 0 ? "" : ", ").append(arguments[i]);
            }
            fail(call.append(") answered ").append(got).append(", due is ").append(want).toString());
        }
    }

    private static long number(String told) {
        if (told.startsWith("'")) {
            return told.charAt(1);
        }
        Long named = NAMED.get(told);
        return named == null ? Long.parseLong(told) : named;
    }

    private Object make() {
        try {
            return constructor.newInstance();
        } catch (ReflectiveOperationException thrown) {
            throw new IllegalStateException(sentence, thrown);
        }
    }

    private long call(Used used, String name, int... arguments) {
        used.calls++;
        if (used.calls > MOST_CALLS) {
            throw new IllegalStateException(sentence + ": the test calls one object more than " + MOST_CALLS + " times");
        }
        Object[] boxed = new Object[arguments.length];
        for (int i = 0; i < arguments.length; i++) {
            boxed[i] = arguments[i];
        }
        try {
            return ((Number) methods.get(name).invoke(used.object, boxed)).longValue();
        } catch (InvocationTargetException thrown) {
            fail(name + " threw " + thrown.getCause());
            return Long.MIN_VALUE;
        } catch (IllegalAccessException closed) {
            throw new IllegalStateException(sentence, closed);
        }
    }

    /** All that can be told, in some sixty calls, the PAD by its FAULT and by what it is judged. */
    private String shown(Used used) {
        StringBuilder all = new StringBuilder();
        for (int what = 0; what < 6; what++) {
            all.append("told(").append(what).append(") ").append(call(used, "told", what)).append(", ");
        }
        long there = call(used, "told", 1);
        for (int flake = 0; flake < 8; flake++) {
            if ((there >> flake & 1) == 1) {
                all.append("flake ").append(flake);
                for (int what = 0; what < 5; what++) {
                    all.append(' ').append(call(used, "told", 10 * (1 + flake) + what));
                }
                all.append(", ");
            }
        }
        for (int one = 0; one < 6; one++) {
            all.append("one ").append(one).append(' ').append(call(used, "told", 100 + 10 * one)).append(' ')
                .append(call(used, "told", 101 + 10 * one)).append(", ");
        }
        all.append("laws ").append(call(used, "laws", -1)).append(' ').append(call(used, "laws", 0)).append(", ");
        all.append("fault ").append(call(used, "fault")).append(", ");
        all.append("judged ").append(call(used, "judge", 0)).append(' ').append(call(used, "judge", 1));
        return all.toString();
    }
}
