import java.lang.reflect.InvocationTargetException;
import java.lang.reflect.Method;
import java.lang.reflect.Modifier;
import java.util.ArrayList;
import java.util.Comparator;
import java.util.List;
import java.util.Random;

/**
 * Any call with any arguments in any state: nothing is thrown but what element may throw, a
 * refusal changes nothing, what only asks changes nothing, and the same calls answer the same.
 */
public final class NoThrowTest {
    private static final int[] ODD = {Integer.MIN_VALUE, -1000, -2, -1, 0, 1, 2, 3, 4, 5, 6, 7, 8, 9,
        10, 11, 99, 100, 101, 255, 256, 65536, Integer.MAX_VALUE - 1, Integer.MAX_VALUE};
    private static final String CHANGING =
            " room comes leaves goes hook set rule restore keep row put copy ";

    private NoThrowTest() {
    }

    public static void main(String[] args) throws IllegalAccessException {
        List<Method> face = face();
        Check check = new Check();
        check.due("calls of the face", face.size(), 46);
        for (int seed = 1; seed <= 400 && check.wrong() < 20; seed++) {
            check.part("seed " + seed);
            long first = run(face, seed, check);
            check.due("the same calls", run(face, seed, check), first);
        }
        check.end();
    }

    private static List<Method> face() {
        List<Method> face = new ArrayList<>();
        for (Method m : CoatsOnTheBed.class.getDeclaredMethods()) {
            if (Modifier.isPublic(m.getModifiers())) {
                face.add(m);
            }
        }
        face.sort(Comparator.comparing(Method::getName));
        return face;
    }

    private static long run(List<Method> face, int seed, Check check)
            throws IllegalAccessException {
        Random dice = new Random(seed);
        CoatsOnTheBed x = new CoatsOnTheBed();
        furnish(x, dice);
        long answers = 0;
        String before = Rooms.all(x);
        for (int k = 0; k < 150; k++) {
            Method m = face.get(dice.nextInt(face.size()));
            Object[] args = new Object[m.getParameterCount()];
            for (int i = 0; i < args.length; i++) {
                args[i] = dice.nextInt(3) == 0 ? ODD[dice.nextInt(ODD.length)] : dice.nextInt(12);
            }
            String call = m.getName() + java.util.Arrays.toString(args);
            long answer = answerOf(m, x, args, call, check);
            answers = 31 * answers + answer;
            String after = Rooms.all(x);
            boolean mayChange = CHANGING.contains(" " + m.getName() + " ") && answer >= 0;
            check.holds(call + " answers " + answer + " and changes nothing",
                    mayChange || before.equals(after));
            before = after;
        }
        return answers;
    }

    private static void furnish(CoatsOnTheBed x, Random dice) {
        int n = dice.nextInt(11);
        for (int g = 0; g < n; g++) {
            x.keep(0, 1, dice.nextInt(8), dice.nextInt(10));
            x.comes(0, dice.nextInt(100));
        }
        Rooms.row(x, 1, 0, 'r', 'o', 'e', 's', ';');
        Rooms.row(x, 2, 0, 'l', 'o', 'r');
        Rooms.row(x, 3, dice.nextInt(3), 0, 1, 2, 3);
        Rooms.row(x, 4, 2, ODD);
        Rooms.row(x, 5, 0, 'g', '3', '1', '2', '2', ';', 'k', '0', ';', 'h', '3', '2', ';');
    }

    private static long answerOf(Method m, CoatsOnTheBed x, Object[] args, String call, Check check)
            throws IllegalAccessException {
        try {
            return ((Number) m.invoke(x, args)).longValue();
        } catch (InvocationTargetException e) {
            Class<?> thrown = e.getCause().getClass();
            boolean due = m.getName().equals("element")
                    && (thrown == IllegalArgumentException.class
                    || thrown == IllegalStateException.class);
            check.holds(call + " throws " + e.getCause(), due);
            return -1;
        }
    }
}
