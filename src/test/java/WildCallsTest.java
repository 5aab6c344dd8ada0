import java.lang.reflect.InvocationTargetException;
import java.lang.reflect.Method;
import java.util.ArrayList;
import java.util.Comparator;
import java.util.List;
import java.util.Random;

/**
 * Calls of all kinds in all states: each throws only what the document names, from its own throw statement, a
 * call that throws changes nothing, and the same calls give the same answers.
 */
public final class WildCallsTest {
    private static final int[] WILD = {Integer.MIN_VALUE, Integer.MIN_VALUE + 1, -1000, -13, -2, -1, 11, 12, 13, 29, 30,
        31, 32, 33, 63, 64, 500, 501, 2000, 1 << 30, Integer.MAX_VALUE - 1, Integer.MAX_VALUE};
    private static final char[] LETTERS = {'h', 'v', '-', 't', 'm', 's', 'e', 'r', 'f', 'x', (char) 0, (char) 65535};

    public static void main(String[] args) throws Exception {
        List<Method> methods = new ArrayList<>();
        for (Method method : LeadlightHall.class.getDeclaredMethods()) {
            if (java.lang.reflect.Modifier.isPublic(method.getModifiers())) {
                methods.add(method);
            }
        }
        methods.sort(Comparator.comparing(Method::getName));
        for (int seed = 0; seed < 1500; seed++) {
            compare(methods, seed);
        }
        Check.end();
    }

    /** All calls, all again, and all but those that are refused, each time on a new object. */
    private static void compare(List<Method> methods, int seed) throws Exception {
        Random random = new Random(seed);
        int form = random.nextInt(4);
        int width = 1 + random.nextInt(4);
        int built = build(new LeadlightHall(), form, width);
        List<Method> called = new ArrayList<>();
        List<Object[]> with = new ArrayList<>();
        for (int call = built; call < 512; call++) {
            Method method = methods.get(random.nextInt(methods.size()));
            called.add(method);
            with.add(arguments(method, random));
        }
        boolean[] isRefused = new boolean[called.size()];
        String one = run(called, with, form, width, isRefused, false);
        Check.like("the same calls answer the same", run(called, with, form, width, isRefused, false), one);
        Check.like("refused calls change nothing", run(called, with, form, width, isRefused, true), one);
    }

    private static String run(List<Method> called, List<Object[]> with, int form, int width, boolean[] isRefused,
            boolean isWithoutRefused) throws Exception {
        LeadlightHall hall = new LeadlightHall();
        build(hall, form, width);
        StringBuilder story = new StringBuilder();
        for (int call = 0; call < isRefused.length; call++) {
            if (isWithoutRefused && isRefused[call]) {
                continue;
            }
            Method method = called.get(call);
            try {
                Object answer = method.invoke(hall, with.get(call));
                story.append(method.getName()).append('=').append(answer).append(' ');
                isRefused[call] = false;
            } catch (InvocationTargetException e) {
                isRefused[call] = true;
                Check.due(method.getName() + " throws what it names: " + e.getCause(), isNamed(method, e.getCause()),
                        true);
            }
        }
        return story.toString();
    }

    private static boolean isNamed(Method method, Throwable thrown) {
        boolean isNamed = false;
        for (Class<?> type : method.getExceptionTypes()) {
            isNamed |= type == thrown.getClass();
        }
        return isNamed && thrown.getStackTrace()[0].getClassName().startsWith("LeadlightHall");
    }

    private static Object[] arguments(Method method, Random random) {
        Class<?>[] types = method.getParameterTypes();
        Object[] with = new Object[types.length];
        boolean isWild = random.nextInt(6) == 0;
        for (int at = 0; at < types.length; at++) {
            if (types[at] == boolean.class) {
                with[at] = random.nextBoolean();
            } else if (types[at] == char.class) {
                with[at] = LETTERS[random.nextInt(isWild ? LETTERS.length : 7)];
            } else if (isWild && random.nextBoolean()) {
                with[at] = WILD[random.nextInt(WILD.length)];
            } else if (method.getName().equals("fire")) {
                with[at] = at == 0 ? 1 << random.nextInt(8) | 1 << random.nextInt(8) : 520 + random.nextInt(160);
            } else {
                with[at] = random.nextInt(random.nextInt(3) == 0 ? 12 : 5);
            }
        }
        return with;
    }

    /** Form 0 leaves stone, 1 pieces with glass, 2 leaded ones, 3 a window that is up. It answers its calls' number. */
    private static int build(LeadlightHall hall, int form, int width) {
        if (form == 0) {
            return 0;
        }
        hall.open(0, 0, 7, 7, true);
        for (int sheet = 0; sheet < 3; sheet++) {
            hall.sheet(0, 12, 12, 'h');
        }
        int calls = 4;
        int pieces = 0;
        for (int x = 0; x < 8; x += width) {
            for (int y = 0; y < 8; y += 4) {
                hall.lay(pieces, x, y, Math.min(7, x + width - 1), y + 3);
                hall.cut(0, pieces, false);
                pieces++;
                calls += 2;
            }
        }
        for (int piece = 0; piece < pieces && form >= 2; piece++) {
            hall.comes();
            calls++;
        }
        if (form == 3) {
            hall.solder();
            calls++;
        }
        return calls;
    }
}
