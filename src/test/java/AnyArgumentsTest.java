import java.lang.reflect.InvocationTargetException;
import java.lang.reflect.Method;
import java.util.Arrays;
import java.util.Comparator;
import java.util.Random;

/** Any calls with any arguments, texts of any bytes: nothing may be thrown, and no answer may be below what is told. */
public final class AnyArgumentsTest {
    private static final Checks CHECKS = new Checks("AnyArgumentsTest");
    private static final String[] PIECES = {"person ", "clerk ", "barred ", "letter ", " if ", "proof ", "dies ", "fee ",
        "good ", " or ", " and ", " not ", " dead ", " read ", "year", "age", "shelf", "late", "a", "b", "c", " x ", " 0",
        " 1", " 7", "99", "12345", ";", "+", "-", "*", "/", "==", "!=", "<", "<=", "=", "(", ")", ".", "!", "\n",
        "person a 1;", "person b 5;", "clerk k;", "barred k a;", "letter l a b 1 9 9;", "letter m b a 2 5 7 if dead a;",
        "letter n a a 3 1 1 if read l and not read n;", "fee=shelf-1;", "dies=age/2;", "good=9-late;", "fee=1/(year-3);"};

    private static int argument(Random random) {
        switch (random.nextInt(12)) {
            case 0: return random.nextInt();
            case 1: return Integer.MIN_VALUE;
            case 2: return Integer.MAX_VALUE;
            case 3: return -1 - random.nextInt(3);
            case 4: return 55 + random.nextInt(10);
            default: return random.nextInt(6);
        }
    }

    private static void layText(AfterOffice office, Random random) {
        StringBuilder text = new StringBuilder();
        for (int i = random.nextInt(40); i > 0; i--) {
            if (random.nextInt(60) == 0) {
                text.append((char) random.nextInt(256));
            } else if (random.nextInt(2) == 0) {
                text.append(PIECES[PIECES.length - 1 - random.nextInt(11)]);
            } else if (random.nextInt(8) == 0) {
                text.append(PIECES[random.nextInt(PIECES.length)]);
            }
        }
        Checks.lay(office, text.toString());
    }

    private static void goOn(int seed, Method[] methods) throws IllegalAccessException {
        Random random = new Random(seed);
        AfterOffice office = new AfterOffice();
        for (int i = 0; i < 200; i++) {
            if (random.nextInt(20) == 0) {
                layText(office, random);
                office.read();
            }
            Method method = methods[random.nextInt(methods.length)];
            Object[] arguments = new Object[method.getParameterCount()];
            for (int j = 0; j < arguments.length; j++) {
                arguments[j] = argument(random);
            }
            try {
                Object answer = method.invoke(office, arguments);
                if (answer instanceof Number && !method.getName().equals("late")) {
                    CHECKS.same(method.getName() + " is below -2", ((Number) answer).longValue() < -2, false);
                }
            } catch (InvocationTargetException thrown) {
                String call = "seed " + seed + ": " + method.getName() + Arrays.toString(arguments);
                CHECKS.same(call + " threw " + thrown.getCause(), 1, 0);
            }
        }
    }

    public static void main(String[] args) throws IllegalAccessException {
        Method[] methods = AfterOffice.class.getDeclaredMethods();
        methods = Arrays.stream(methods).filter(one -> java.lang.reflect.Modifier.isPublic(one.getModifiers()))
                .sorted(Comparator.comparing(Method::getName)).toArray(Method[]::new);
        for (int seed = 0; seed < 3000; seed++) {
            goOn(seed, methods);
        }
        CHECKS.end();
    }
}
