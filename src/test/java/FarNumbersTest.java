import java.lang.reflect.InvocationTargetException;
import java.lang.reflect.Method;
import java.lang.reflect.Modifier;

/** LANGUAGE.md, rule 7: no call throws, for any numbers in any state; each answers within the numbers that are told. */
public final class FarNumbersTest {
    private static final int[] FEW = {Integer.MIN_VALUE, -1, 0, 1, 8, 41, Integer.MAX_VALUE};
    private static final int[] MANY = {Integer.MIN_VALUE, Integer.MIN_VALUE + 1, -1000001, -256, -41, -2, -1, 0, 1, 2, 3, 4, 5, 6,
        7, 8, 9, 10, 16, 23, 24, 25, 39, 40, 41, 119, 120, 121, 255, 256, 998, 999, 65536, Integer.MAX_VALUE - 1,
        Integer.MAX_VALUE};

    public static void main(String[] args) throws IllegalAccessException {
        for (int state = 0; state < 5; state++) {
            for (Method call : NightLoom.class.getDeclaredMethods()) {
                if (Modifier.isPublic(call.getModifiers())) {
                    int[] numbers = call.getParameterCount() > 3 ? FEW : MANY;
                    NightLoom x = inState(state);
                    callAll(x, call, numbers, new Object[call.getParameterCount()], 0);
                }
            }
        }
        Check.end();
    }

    private static NightLoom inState(int state) {
        String loom = "text l24,99,9,0,3,9;c0,1;k1,1;p1,2;w1,3;n1,4;m1,5;";
        String[][] stories = {{}, {loom}, {loom, "row 0 0 40", "row 1 2 8", "act 6 0 6 3", "image 0"},
            {loom, "row 7 1 0", "act 6", "image 1", "ask 1 0"}, {"text l4,4,0,1,1,0;c3;", "row 0 2 1", "act 4 0"}};
        return Edge.run("story", stories[state]);
    }

    private static void callAll(NightLoom x, Method call, int[] numbers, Object[] with, int at) throws IllegalAccessException {
        if (at < with.length) {
            for (int number : numbers) {
                with[at] = number;
                callAll(x, call, numbers, with, at + 1);
            }
            return;
        }
        String told = call.getName() + java.util.Arrays.toString(with);
        try {
            int answer = (Integer) call.invoke(x, with);
            // An ITEM of ints is whatever was set.
            Check.isTrue(told + " answered " + answer, call.getName().equals("set") || answer >= -1000220 && answer < 1000000);
        } catch (InvocationTargetException e) {
            Check.isTrue(told + " threw " + e.getCause(), false);
        }
    }
}
