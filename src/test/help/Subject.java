import java.lang.reflect.InvocationTargetException;
import java.lang.reflect.Method;

/** One object, asked by calls written as text. They are counted: nothing is promised of a 513th. */
final class Subject {
    private static final int MOST_CALLS = 512;
    private static final int MOST_ROWS = 30;
    private static final int LAST_LOOK = 12;
    private final SpeedKernel kernel = new SpeedKernel();
    private int calls = 0;

    /**
     * What a call answers; throws.X where it throws just X. Besides the calls of the face there is
     * text(what, i): what print(what, i) prints, or none.
     */
    String ask(String call) {
        int open = call.indexOf('(');
        String name = call.substring(0, open);
        String inside = call.substring(open + 1, call.length() - 1);
        String[] arguments = inside.isEmpty() ? new String[0] : inside.split(", ");
        if (name.equals("text")) {
            return text(arguments[0], arguments[1]);
        }
        return invoke(named(name), arguments);
    }

    /** All that the object tells, for states whose deadlines are small. */
    String everything() {
        StringBuilder all = new StringBuilder(characters());
        for (String call : new String[] {"convex()", "check()", "near()", "compare(7, 0, 8, 0)", "compare(7, 0, 9, 0)"}) {
            tell(all, call);
        }
        int jobs = Integer.parseInt(tell(all, "about(0, 0)"));
        int levels = Integer.parseInt(tell(all, "about(1, 0)"));
        for (int i = 0; i < jobs; i++) {
            tell(all, "about(2, " + i + ")");
            tell(all, "about(3, " + i + ")");
            tell(all, "about(4, " + i + ")");
            tell(all, "levelOf(" + i + ", 0)");
            tell(all, "levelOf(" + i + ", 1)");
        }
        for (int i = 0; i < levels; i++) {
            tell(all, "about(5, " + i + ")");
            tell(all, "about(6, " + i + ")");
        }
        for (int t = 0; t < LAST_LOOK; t++) {
            tell(all, "speed(" + t + ".5)");
            tell(all, "working(0, " + t + ")");
            tell(all, "working(1, " + t + ")");
        }
        tellRows(all, "step(0, ", ", 0)", "throws.IndexOutOfBoundsException");
        tellRows(all, "step(0, ", ", 1)", "throws.IndexOutOfBoundsException");
        tellRows(all, "step(1, ", ", 0)", "throws.IndexOutOfBoundsException");
        tellRows(all, "step(1, ", ", 1)", "throws.IndexOutOfBoundsException");
        for (int what = 0; what <= 9; what++) {
            tellRows(all, "text(" + what + ", ", ")", "none");
        }
        return all.toString();
    }

    private String tell(StringBuilder all, String call) {
        String answer = ask(call);
        all.append(call).append(' ').append(answer).append("; ");
        return answer;
    }

    private void tellRows(StringBuilder all, String before, String behind, String last) {
        for (int i = 0; i < MOST_ROWS; i++) {
            if (tell(all, before + i + behind).equals(last)) {
                return;
            }
        }
    }

    private String text(String what, String i) {
        String length = ask("print(" + what + ", " + i + ")");
        if (length.equals("-1")) {
            return "none";
        }
        String printed = characters();
        return length.equals(String.valueOf(printed.length())) ? printed : printed + " of length " + length;
    }

    /** The characters printed latest, up to the first that there is not. */
    private String characters() {
        StringBuilder printed = new StringBuilder();
        int next = Integer.parseInt(ask("character(0)"));
        while (next >= 0) {
            printed.append((char) next);
            next = Integer.parseInt(ask("character(" + printed.length() + ")"));
        }
        return printed.toString();
    }

    private static Method named(String name) {
        for (Method m : SpeedKernel.class.getDeclaredMethods()) {
            if (m.getName().equals(name) && java.lang.reflect.Modifier.isPublic(m.getModifiers())) {
                return m;
            }
        }
        throw new IllegalArgumentException("the face has no " + name);
    }

    private String invoke(Method method, String[] words) {
        calls++;
        if (calls > MOST_CALLS) {
            throw new IllegalStateException("a test asks one object more than " + MOST_CALLS + " times");
        }
        Object[] arguments = new Object[words.length];
        for (int i = 0; i < words.length; i++) {
            arguments[i] = method.getParameterTypes()[i] == double.class ? Double.valueOf(words[i]) : whole(words[i]);
        }
        try {
            return String.valueOf(method.invoke(kernel, arguments));
        } catch (InvocationTargetException e) {
            return "throws." + e.getCause().getClass().getSimpleName();
        } catch (IllegalAccessException e) {
            throw new IllegalStateException(e);
        }
    }

    private static Object whole(String word) {
        if (word.equals("LEAST")) {
            return Integer.MIN_VALUE;
        }
        return word.equals("MOST") ? Integer.MAX_VALUE : Integer.parseInt(word);
    }
}
