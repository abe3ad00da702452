import java.lang.reflect.InvocationTargetException;
import java.lang.reflect.Method;
import java.lang.reflect.Modifier;
import java.util.Arrays;
import java.util.Random;

/** No call throws, or answers what no promise names, for any numbers in any state; the face is the document's. */
public final class AnyNumbersTest extends Checks {
    private static final int[] NUMBERS = {MIN, MIN + 1, NONE, -12, -2, -1, 0, 1, 2, 3, 5, 6, 7, 8, 10, 11, 12, 13, 15, 16, 31, 32,
        39, 40, 41, 63, 127, 1799, 1800, 1900, 1950, 2000, 2001, 4032, 4095, 4096, 9999, 10000, MAX - 40, MAX - 1, MAX};
    private static final String[] TEXTS = {PLAIN, "card 0 1900;add 0 9 0;heat 3 3;", "card 3 2000;add 7 ? 3;beat ?;", "", "rise ? ",
        "measure 0 0 1900 99;packet 0 1850 1900;rise 9 8 7 6 5 4 3 2 1 0 9 500;"};
    private static final int CALLS = 512;

    private static String last = "";

    private static Object number(Random dice, Class<?> type) {
        int number = NUMBERS[dice.nextInt(NUMBERS.length)];
        if (dice.nextInt(4) == 0) {
            number = dice.nextInt(12);
        }
        if (dice.nextInt(16) == 0) {
            number = dice.nextInt();
        }
        return type == long.class ? (Object) dice.nextLong() : (Object) number;
    }

    private static long made(CakeCards x, Method method, Object[] numbers) {
        last = method.getName() + Arrays.toString(numbers);
        try {
            return ((Number) method.invoke(x, numbers)).longValue();
        } catch (IllegalAccessException | InvocationTargetException e) {
            System.out.println(last + " threw " + e.getCause());
            return Long.MIN_VALUE;
        }
    }

    /** A refusal, a finding, a fault of a text of 500 bytes at most, or a number that some promise can tell. */
    private static boolean isAnswer(long answer) {
        boolean refused = answer <= BAD && answer >= FULL || answer <= NULL && answer >= STORE;
        boolean fault = answer <= NOT - 100 && answer >= NOT - 600;
        return refused || fault || answer >= MIN && answer < 4000000000L;
    }

    private static void dueAnswer(long answer) {
        due(last + " is an answer", isAnswer(answer) ? 1 : 0, 1);
    }

    private static Method[] face() {
        Method[] methods = CakeCards.class.getDeclaredMethods();
        Method[] open = Arrays.stream(methods).filter(m -> Modifier.isPublic(m.getModifiers())).toArray(Method[]::new);
        Arrays.sort(open, (a, b) -> a.getName().compareTo(b.getName()));
        return open;
    }

    private static void anyCalls(long seed) {
        Random dice = new Random(seed);
        Method[] methods = face();
        CakeCards x = new CakeCards();
        int calls = 0;
        if (seed % 8 != 0) {
            kitchen(x, TEXTS[seed % 2 == 0 ? 0 : 5]);
            calls = 12;
        }
        for (int card = 0; card < seed % 13 && seed % 8 != 0; card++) {
            int[] marks = new int[11];
            for (int mark = 0; mark < 11; mark++) {
                marks[mark] = dice.nextInt(4) - 1;
            }
            told(x, 1900 + dice.nextInt(3), card == 0 ? NONE : 0, marks);
            calls += 13;
        }
        while (calls < CALLS - 20) {
            if (dice.nextInt(20) == 0) {
                feed(x, TEXTS[dice.nextInt(TEXTS.length)]);
                calls += 12;
            }
            Method method = methods[dice.nextInt(methods.length)];
            Object[] numbers = new Object[method.getParameterCount()];
            for (int i = 0; i < numbers.length; i++) {
                numbers[i] = number(dice, method.getParameterTypes()[i]);
            }
            dueAnswer(made(x, method, numbers));
            calls++;
        }
    }

    private static void theFace() {
        says("## The public face");
        String names = "";
        for (Method method : face()) {
            names += method.getReturnType() + " " + method.getName() + method.getParameterCount() + " ";
        }
        same("the methods", names, "long as2 long ask2 long baked2 long blame3 long book1 long card0 long chance3 long copied6 long copy5"
            + " long count1 long drop1 int fault0 long feed2 long first3 long grains3 long image1 long kind1 long kitchen0 long left2"
            + " long mark2 long mend4 long mother1 long mothers1 long of2 long restore1 long row3 long set3 long stain2 int status0"
            + " long sure2 long told5 int trace1 long trees2 long two2 long unlike2 long years2 ");
        due("constructors", CakeCards.class.getConstructors().length, 1);
        due("constants", CakeCards.class.getFields().length, 2);
        due("it is final", Modifier.isFinal(CakeCards.class.getModifiers()) ? 1 : 0, 1);
    }

    public static void main(String[] args) {
        theFace();
        says("Refusals are answers");
        int runs = args.length > 0 ? Integer.parseInt(args[0]) : 600;
        for (long seed = 0; seed < runs; seed++) {
            anyCalls(seed);
        }
        end();
    }
}
