import java.lang.reflect.Method;
import java.util.ArrayList;
import java.util.HashMap;
import java.util.List;
import java.util.Map;

/** The class and the oracle side by side: each call goes to both, and the answers must be the same. */
final class Both {
    private static final Map<String, Method> MINE = methodsOf(SugarBelow.class);
    private static final Map<String, Method> OTHERS = methodsOf(Oracle.class);

    final Oracle oracle = new Oracle();
    private final SugarBelow mine = new SugarBelow();
    private final List<String> told = new ArrayList<>();
    private final String name;
    private boolean wrong;

    Both(String name) {
        this.name = name;
    }

    private static Map<String, Method> methodsOf(Class<?> whose) {
        Map<String, Method> found = new HashMap<>();
        for (Method method : whose.getDeclaredMethods()) {
            method.setAccessible(true);
            found.put(method.getName() + method.getParameterCount(), method);
        }
        return found;
    }

    int calls() {
        return told.size();
    }

    boolean isWrong() {
        return wrong;
    }

    /** The class's answer; after the first wrong one nothing more is printed. */
    long ask(String call, int... numbers) {
        Object[] given = new Object[numbers.length];
        StringBuilder text = new StringBuilder(call).append('(');
        for (int i = 0; i < numbers.length; i++) {
            given[i] = numbers[i];
            text.append(i == 0 ? "" : ", ").append(numbers[i]);
        }
        long got = answer(MINE, mine, call, given);
        long want = answer(OTHERS, oracle, call, given);
        told.add(text.append(") ").append(got).toString());
        if (got != want && !wrong) {
            wrong = true;
            System.out.println(name + ":\n" + String.join("\n", told) + "\ndue was " + want);
        }
        return got;
    }

    private static long answer(Map<String, Method> methods, Object whose, String call, Object[] given) {
        try {
            return ((Number) methods.get(call + given.length).invoke(whose, given)).longValue();
        } catch (ReflectiveOperationException e) {
            throw new IllegalStateException(call, e);
        }
    }

    /** The class's answer alone, of any object of it. */
    static long askClass(SugarBelow whose, String call, int... numbers) {
        Object[] given = new Object[numbers.length];
        for (int i = 0; i < numbers.length; i++) {
            given[i] = numbers[i];
        }
        return answer(MINE, whose, call, given);
    }

    void write(int sort, String text) {
        for (int i = 0; i < text.length(); i++) {
            ask("say", text.charAt(i));
        }
        ask("fault");
        ask("list", sort);
        ask("wipe");
    }
}
