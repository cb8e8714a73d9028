import java.lang.reflect.InvocationTargetException;
import java.lang.reflect.Method;
import java.lang.reflect.Modifier;
import java.util.Arrays;
import java.util.HashMap;
import java.util.List;
import java.util.Map;

/** An object of the class and how many calls it has had; calls are told by their names. */
final class Run {
    /** What later calls answer is free. */
    static final int MOST_CALLS = 512;
    private static final Map<String, Method> METHODS = new HashMap<>();

    static {
        for (Method method : StrangerSigns.class.getDeclaredMethods()) {
            if (Modifier.isPublic(method.getModifiers())) {
                METHODS.put(method.getName(), method);
            }
        }
    }

    /** One call, so that it can be made again on another object. */
    record Step(String name, Object... args) {
        @Override
        public String toString() {
            String all = Arrays.toString(args);
            return name + "(" + all.substring(1, all.length() - 1) + ")";
        }
    }

    private final StrangerSigns x = new StrangerSigns();
    private int calls = 0;

    static Run of(List<Step> steps) {
        Run run = new Run();
        steps.forEach(run::make);
        return run;
    }

    int calls() {
        return calls;
    }

    int call(String name, Object... args) {
        return make(new Step(name, args));
    }

    int make(Step step) {
        calls++;
        try {
            return (int) METHODS.get(step.name()).invoke(x, step.args());
        } catch (IllegalAccessException | InvocationTargetException e) {
            throw new IllegalStateException(step.toString(), e);
        }
    }
}
