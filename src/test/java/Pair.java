import java.lang.reflect.InvocationTargetException;
import java.lang.reflect.Method;
import java.lang.reflect.Modifier;
import java.util.ArrayList;
import java.util.Arrays;
import java.util.Comparator;
import java.util.List;

/** A TellerDays and a Model that are given the same calls: all answers must be the same. */
final class Pair {
    final Model model = new Model();
    private final TellerDays x = new TellerDays();
    private final List<String> told = new ArrayList<>();

    /** The calls of the face, in an order that is always the same (reflection gives none). */
    static List<Method> face() {
        return Arrays.stream(TellerDays.class.getDeclaredMethods())
            .filter(m -> Modifier.isPublic(m.getModifiers()))
            .sorted(Comparator.comparing(Method::getName))
            .toList();
    }

    /** How many calls there were. */
    int age() {
        return told.size();
    }

    boolean read(String text) throws ReflectiveOperationException {
        for (char c : text.toCharArray()) {
            if (!same("feed", (int) c)) return false;
        }
        return same("bank") && same("fault");
    }

    boolean same(String name, Object... args) throws ReflectiveOperationException {
        String call = name + Arrays.toString(args);
        told.add(call);
        Class<?>[] types = new Class<?>[args.length];
        Arrays.fill(types, int.class);
        long want = ((Number) Model.class.getDeclaredMethod(name, types).invoke(model, args)).longValue();
        long got;
        try {
            got = ((Number) TellerDays.class.getDeclaredMethod(name, types).invoke(x, args)).longValue();
        } catch (InvocationTargetException e) {
            System.out.println(told + " threw " + e.getCause());
            Check.that(call + " does not throw", false);
            return false;
        }
        if (got != want) {
            System.out.println("the run: " + told);
        }
        Check.due(call, got, want);
        return got == want;
    }
}
