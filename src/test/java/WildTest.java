import java.lang.reflect.InvocationTargetException;
import java.lang.reflect.Method;
import java.lang.reflect.Modifier;
import java.util.Arrays;
import java.util.Comparator;
import java.util.List;
import java.util.Random;

/**
 * Every call with numbers of all sorts, on what is empty, ordinary, does not close, is full: none throws, what is
 * refused changes nothing, and neither does what only tells.
 */
public final class WildTest {
    private static final int[] NUMBERS = {Integer.MIN_VALUE, Integer.MIN_VALUE + 1, -10000, -9999, -1000, -999, -101,
        -16, -15, -2, -1, 0, 1, 2, 3, 4, 5, 6, 7, 8, 9, 10, 11, 12, 15, 16, 17, 20, 21, 31, 32, 41, 42, 98, 99, 100, 126,
        127, 239, 240, 241, 998, 999, 1000, 9998, 9999, 10000, Integer.MAX_VALUE - 1, Integer.MAX_VALUE};
    private static final List<Long> REFUSALS = List.of(-101L, -102L, -103L, -104L, -100001L, -100002L, -100003L);
    private static final List<String> TELLING = List.of("as", "about", "fault", "at", "years", "lean", "like", "over",
        "slide", "chance", "together", "lies", "closes", "span", "date", "calendars", "castOut", "hangs", "pace", "took",
        "image", "count", "digest");

    private static int wrong = 0;
    private static int asked = 0;
    private static final Random RANDOM = new Random(7);

    public static void main(String[] args) throws IllegalAccessException {
        int objects = args.length > 0 ? Integer.parseInt(args[0]) : 160;
        Bench.Made[] worlds = {Bench::empty, Bench::ordinary, Bench::unclosed, Bench::full};
        Method[] calls = Arrays.stream(LeavesOfMud.class.getDeclaredMethods())
                .filter(call -> Modifier.isPublic(call.getModifiers()))
                .sorted(Comparator.comparing(Method::getName))
                .toArray(Method[]::new);
        for (int i = 0; i < objects && wrong < 10; i++) {
            useOne(worlds[i % worlds.length].now(), calls);
        }
        System.out.println(asked + " wild calls, " + wrong + " wrong");
        if (wrong > 0) {
            System.exit(1);
        }
    }

    /** With the digests and what has made it, fewer calls than an object is used for. */
    private static void useOne(LeavesOfMud mud, Method[] calls) throws IllegalAccessException {
        long before = mud.digest();
        for (int i = 0; i < 160; i++) {
            Method call = calls[RANDOM.nextInt(calls.length)];
            Object[] numbers = numbersFor(call);
            long answer = answerOf(mud, call, numbers);
            long now = mud.digest();
            boolean mayNotChange = REFUSALS.contains(answer) || TELLING.contains(call.getName());
            if (mayNotChange && now != before) {
                wrong++;
                System.out.println(call.getName() + Arrays.toString(numbers) + " answered " + answer + " and changed it");
            }
            before = now;
            asked++;
        }
    }

    private static long answerOf(LeavesOfMud mud, Method call, Object[] numbers) throws IllegalAccessException {
        try {
            return ((Number) call.invoke(mud, numbers)).longValue();
        } catch (InvocationTargetException thrown) {
            wrong++;
            System.out.println(call.getName() + Arrays.toString(numbers) + " has thrown " + thrown.getCause());
            return 0;
        }
    }

    private static Object[] numbersFor(Method call) {
        Class<?>[] types = call.getParameterTypes();
        Object[] numbers = new Object[types.length];
        // half of all calls have small numbers alone, so that some are taken
        boolean small = RANDOM.nextBoolean();
        for (int i = 0; i < types.length; i++) {
            int number = small ? RANDOM.nextInt(5) - (RANDOM.nextInt(8) == 0 ? 1 : 0)
                    : NUMBERS[RANDOM.nextInt(NUMBERS.length)];
            if (types[i] == boolean.class) {
                numbers[i] = number % 2 == 0;
            } else if (types[i] == long.class) {
                numbers[i] = wildWord(number);
            } else {
                numbers[i] = number;
            }
        }
        return numbers;
    }

    private static long wildWord(int number) {
        String[] texts = {"l4", "w2,", "a", "9", ",s1", "d22,u1"};
        switch (RANDOM.nextInt(3)) {
            case 0:
                return Bench.word(texts[RANDOM.nextInt(texts.length)]);
            case 1:
                return RANDOM.nextLong();
            default:
                return number;
        }
    }
}
