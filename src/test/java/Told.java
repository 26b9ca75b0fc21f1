import java.lang.reflect.InvocationTargetException;
import java.lang.reflect.Method;
import java.util.ArrayList;
import java.util.HashMap;
import java.util.List;
import java.util.Map;
import java.util.NoSuchElementException;

/**
 * A call told as a text, as "pains 0 99 wet 13 94": NONE, MIN and MAX are numbers too. "tape y:1" lets the TAPE have this
 * text alone, "goer y:1" and "book a1b" make it one. It can be asked of an OldRoads and of a PlainRoads.
 */
final class Told {
    static final long THROWS = Long.MIN_VALUE;
    private static final Map<Class<?>, Map<String, Method>> METHODS = new HashMap<>();

    final String text;
    private final String name;
    private final Object[] given;
    private final List<Told> before = new ArrayList<>();

    Told(String text) {
        this.text = text;
        int blank = text.indexOf(' ');
        String first = blank < 0 ? text : text.substring(0, blank);
        String rest = blank < 0 ? "" : text.substring(blank + 1);
        if (first.equals("tape") || first.equals("goer") || first.equals("book")) {
            feeds(rest);
            name = first.equals("tape") ? "count" : "text";
            given = new Object[] {first.equals("tape") ? 8 : first.equals("goer") ? 0 : 1};
        } else {
            name = first;
            String[] words = rest.isEmpty() ? new String[0] : rest.split(" ");
            given = new Object[words.length];
            Class<?>[] kinds = method(OldRoads.class, name).getParameterTypes();
            for (int i = 0; i < words.length; i++) {
                given[i] = value(words[i], kinds[i]);
            }
        }
    }

    private void feeds(String bytes) {
        before.add(new Told("end 0"));
        for (int i = 0; i < bytes.length(); i += 20) {
            StringBuilder feed = new StringBuilder("feed");
            for (int k = i; k < i + 20; k += 4) {
                int four = 0;
                for (int b = k; b < k + 4; b++) {
                    four = four << 8 | (b < bytes.length() ? bytes.charAt(b) : 0);
                }
                feed.append(' ').append(four);
            }
            before.add(new Told(feed.toString()));
        }
    }

    private static Object value(String word, Class<?> kind) {
        if (kind == boolean.class) {
            return word.equals("wet");
        }
        boolean isLong = kind == long.class;
        long number;
        switch (word) {
            case "NONE":
                number = -1;
                break;
            case "MIN":
                number = isLong ? Long.MIN_VALUE : Integer.MIN_VALUE;
                break;
            case "MAX":
                number = isLong ? Long.MAX_VALUE : Integer.MAX_VALUE;
                break;
            default:
                number = Long.parseLong(word);
        }
        return isLong ? (Object) number : (Object) Math.toIntExact(number);
    }

    private static Method method(Class<?> of, String name) {
        return METHODS.computeIfAbsent(of, Told::methods).get(name);
    }

    /** Those of the face: a PlainRoads has others of the same names. */
    private static Map<String, Method> methods(Class<?> of) {
        Map<String, Method> all = new HashMap<>();
        for (Method face : OldRoads.class.getDeclaredMethods()) {
            for (Method m : of.getDeclaredMethods()) {
                if (m.getName().equals(face.getName()) && List.of(m.getParameterTypes()).equals(List.of(face.getParameterTypes()))
                    && (of != OldRoads.class || java.lang.reflect.Modifier.isPublic(m.getModifiers()))) {
                    all.put(m.getName(), m);
                }
            }
        }
        return all;
    }

    String name() {
        return name;
    }

    /** How many calls of the face this is. */
    int calls() {
        return before.size() + 1;
    }

    /** The answer; of a boolean 1 or 0, THROWS for the exception that the document names. */
    long of(Object roads) {
        for (Told call : before) {
            call.of(roads);
        }
        try {
            Object answer = method(roads.getClass(), name).invoke(roads, given);
            return answer instanceof Boolean ? ((Boolean) answer ? 1 : 0) : (Integer) answer;
        } catch (InvocationTargetException e) {
            if (e.getCause().getClass() == NoSuchElementException.class) {
                return THROWS;
            }
            throw new IllegalStateException(text, e.getCause());
        } catch (IllegalAccessException e) {
            throw new IllegalStateException(text, e);
        }
    }

    /** What this call answers if it is refused. */
    long refusal() {
        switch (name) {
            case "draw":
            case "end":
            case "weigh":
                return 0;
            case "pain":
            case "stage":
                return THROWS;
            case "off":
            case "older":
                return OldRoads.HIDDEN;
            case "fault":
                return -2;
            default:
                return OldRoads.NONE;
        }
    }
}
