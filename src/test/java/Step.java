import java.lang.reflect.InvocationTargetException;
import java.lang.reflect.Method;
import java.util.ArrayList;
import java.util.HashMap;
import java.util.List;
import java.util.Map;
import java.util.Set;
import java.util.regex.Matcher;
import java.util.regex.Pattern;

/**
 * One call on an object, with the answer that is due, if one is told. Steps are written one behind the
 * other with " & " between them:
 *   name(1, -2) = 3      a call; its numbers may be min and max, too
 *   'wp0,1,1000;' = 1    the letters, then way()
 *   tell 'wp0'           the letters alone
 *   10 x row(9)          a step so many times
 */
record Step(String name, int[] numbers, Integer due) {
    /** What changes something that is told, where it is not refused. */
    static final Set<String> CHANGING =
        Set.of("letter", "way", "set", "custom", "film", "told", "row", "judge", "image", "on");
    static final Map<String, Method> METHODS = methods();

    private static final Pattern TIMES = Pattern.compile("(\\d+) x (.*)");
    private static final Pattern LETTERS = Pattern.compile("(tell )?'(.*)'");
    private static final Pattern CALL = Pattern.compile("(\\w+)\\((.*)\\)");

    private static Map<String, Method> methods() {
        Map<String, Method> methods = new HashMap<>();
        for (Method method : DoorIsHeld.class.getDeclaredMethods()) {
            if (method.getName().matches("\\w+") && java.lang.reflect.Modifier.isPublic(method.getModifiers())) {
                methods.put(method.getName(), method);
            }
        }
        return methods;
    }

    static List<Step> all(String text) {
        List<Step> steps = new ArrayList<>();
        for (String part : text.split(" & ")) {
            if (!part.isEmpty()) {
                add(part.trim(), steps);
            }
        }
        return steps;
    }

    private static void add(String part, List<Step> steps) {
        String[] sides = part.split(" = ");
        Integer due = sides.length > 1 ? Integer.valueOf(sides[1].trim()) : null;
        Matcher times = TIMES.matcher(sides[0]);
        int many = 1;
        String step = sides[0].trim();
        if (times.matches()) {
            many = Integer.parseInt(times.group(1));
            step = times.group(2).trim();
        }
        for (int i = 1; i <= many; i++) {
            addOne(step, i == many ? due : null, steps);
        }
    }

    private static void addOne(String step, Integer due, List<Step> steps) {
        Matcher letters = LETTERS.matcher(step);
        Matcher call = CALL.matcher(step);
        if (letters.matches()) {
            for (char c : letters.group(2).toCharArray()) {
                steps.add(new Step("letter", new int[] {c}, null));
            }
            if (letters.group(1) == null) {
                steps.add(new Step("way", new int[0], due));
            }
        } else if (call.matches()) {
            steps.add(new Step(call.group(1), numbers(call.group(2)), due));
        } else {
            throw new IllegalArgumentException("no step: " + step);
        }
    }

    private static int[] numbers(String text) {
        if (text.isBlank()) {
            return new int[0];
        }
        String[] parts = text.split(",");
        int[] numbers = new int[parts.length];
        for (int i = 0; i < parts.length; i++) {
            String part = parts[i].trim();
            numbers[i] = part.equals("min") ? Integer.MIN_VALUE
                : part.equals("max") ? Integer.MAX_VALUE : Integer.parseInt(part);
        }
        return numbers;
    }

    static int call(DoorIsHeld door, String name, int... numbers) {
        Method method = METHODS.get(name);
        Object[] boxed = new Object[numbers.length];
        for (int i = 0; i < numbers.length; i++) {
            boxed[i] = numbers[i];
        }
        try {
            return (Integer) method.invoke(door, boxed);
        } catch (IllegalAccessException | InvocationTargetException e) {
            throw new IllegalStateException(name, e);
        }
    }

    int on(DoorIsHeld door) {
        return call(door, name, numbers);
    }

    boolean isRefused() {
        return due != null && due < 0 && due >= -6;
    }

    boolean changes() {
        return CHANGING.contains(name);
    }
}
