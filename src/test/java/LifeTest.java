import java.lang.reflect.Method;
import java.util.Arrays;

/** An object up to its 512th call, and calls with the wildest numbers, each beside the Model. */
public final class LifeTest {
    private static final int LIFE = 512;
    private static final int[] FEW = {Integer.MIN_VALUE, -1, 0, 1, Integer.MAX_VALUE};
    private static final int[] MANY = {Integer.MIN_VALUE, Integer.MIN_VALUE + 1, -1, 0, 1, 2, Integer.MAX_VALUE - 1,
        Integer.MAX_VALUE};
    private static final String BANK = "b3,2;n20,2;k9,5;d12;p4;d30;";

    public static void main(String[] args) throws ReflectiveOperationException {
        for (Method m : Pair.face()) {
            wildNumbers(m, true);
            wildNumbers(m, false);
            lastCall(m);
        }
        Check.end();
    }

    /** All mixes of numbers, with a BANK and ROWS, or with nothing there. */
    private static void wildNumbers(Method m, boolean rich) throws ReflectiveOperationException {
        int[] numbers = m.getParameterCount() > 4 ? FEW : MANY;
        int mixes = (int) Math.pow(numbers.length, m.getParameterCount());
        Pair pair = newPair(rich);
        for (int mix = 0; mix < mixes; mix++) {
            if (pair.age() >= LIFE - 2) {
                pair = newPair(rich);
            }
            Object[] args = new Object[m.getParameterCount()];
            for (int k = 0, rest = mix; k < args.length; k++, rest /= numbers.length) {
                args[k] = numbers[rest % numbers.length];
            }
            if (!pair.same(m.getName(), args) || !pair.same("status")) return;
        }
    }

    private static Pair newPair(boolean rich) throws ReflectiveOperationException {
        Pair pair = new Pair();
        if (rich) {
            pair.read(BANK);
            pair.same("row", 0, 0, 5);
            pair.same("row", 1, 1, 2);
            pair.same("row", 2, 0, 0);
            pair.same("image", 0);
        }
        return pair;
    }

    /** The whole life is spent on ACTS; then the call is the 512th. */
    private static void lastCall(Method m) throws ReflectiveOperationException {
        Pair pair = newPair(true);
        for (int k = 0; pair.age() < LIFE - 1; k++) {
            if (!spend(pair, k)) return;
        }
        Object[] args = new Object[m.getParameterCount()];
        Arrays.fill(args, 1);
        pair.same(m.getName(), args);
    }

    private static boolean spend(Pair pair, int k) throws ReflectiveOperationException {
        return switch (k % 7) {
            case 0, 3 -> pair.same("come", k % 2, 1 + k % 30);
            case 1 -> pair.same("swap");
            case 2 -> pair.same("counter", 1, k / 7 % 2);
            case 4 -> pair.same("serve", 1 + k / 7 % 4);
            case 5 -> pair.same("undo");
            default -> pair.same("set", 0, k % 5, k);
        };
    }
}
