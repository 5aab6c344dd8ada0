import java.lang.reflect.InvocationTargetException;
import java.lang.reflect.Method;
import java.util.ArrayList;
import java.util.Comparator;
import java.util.List;
import java.util.Random;

/**
 * Calls of all kinds in all states: each throws only what the document names, from its own throw statement, a
 * call that throws changes nothing, and the same calls give the same answers.
 */
public final class WildCallsTest {
    private static final int[] WILD = {Integer.MIN_VALUE, Integer.MIN_VALUE + 1, -1000, -13, -2, -1, 11, 12, 13, 29, 30,
        31, 32, 33, 63, 64, 500, 501, 2000, 1 << 30, Integer.MAX_VALUE - 1, Integer.MAX_VALUE};
    private static final char[] LETTERS = {'h', 'v', '-', 't', 'm', 's', 'e', 'r', 'f', 'x', (char) 0, (char) 65535};

    public static void main(String[] args) throws Exception {
        List<Method> methods = new ArrayList<>();
        for (Method method : LeadlightHall.class.getDeclaredMethods()) {
            if (java.lang.reflect.Modifier.isPublic(method.getModifiers())) {
                methods.add(method);
            }
        }
        methods.sort(Comparator.comparing(Method::getName));
        for (int seed = 0; seed < 600; seed++) {
            String one = run(methods, seed, true);
            Check.due("the same calls answer the same", run(methods, seed, false), one);
        }
        Check.end();
    }

    private static String run(List<Method> methods, int seed, boolean isLooking) throws Exception {
        Random random = new Random(seed);
        LeadlightHall hall = new LeadlightHall();
        StringBuilder story = new StringBuilder();
        int calls = 512;
        if (seed % 4 != 0) {
            calls -= build(hall, random, seed % 4 == 1);
        }
        for (int call = 0; call < calls; call++) {
            Method method = methods.get(random.nextInt(methods.size()));
            Object[] with = arguments(method, random);
            String before = isLooking ? stateOf(hall) : "";
            String answer;
            try {
                answer = String.valueOf(method.invoke(hall, with));
            } catch (InvocationTargetException e) {
                answer = e.getCause().getClass().getSimpleName();
                Check.due(method.getName() + " throws what it names: " + answer, isNamed(method, e.getCause()), true);
                if (isLooking) {
                    Check.due(method.getName() + " throws and changes nothing", stateOf(hall), before);
                }
            }
            story.append(method.getName()).append('=').append(answer).append(' ');
        }
        return story.toString();
    }

    private static boolean isNamed(Method method, Throwable thrown) {
        boolean isNamed = false;
        for (Class<?> type : method.getExceptionTypes()) {
            isNamed |= type == thrown.getClass();
        }
        return isNamed && thrown.getStackTrace()[0].getClassName().startsWith("LeadlightHall");
    }

    private static Object[] arguments(Method method, Random random) {
        Class<?>[] types = method.getParameterTypes();
        Object[] with = new Object[types.length];
        boolean isWild = random.nextInt(6) == 0;
        for (int at = 0; at < types.length; at++) {
            if (types[at] == boolean.class) {
                with[at] = random.nextBoolean();
            } else if (types[at] == char.class) {
                with[at] = LETTERS[random.nextInt(isWild ? LETTERS.length : 7)];
            } else if (isWild && random.nextBoolean()) {
                with[at] = WILD[random.nextInt(WILD.length)];
            } else if (method.getName().equals("fire")) {
                with[at] = at == 0 ? 1 << random.nextInt(8) | 1 << random.nextInt(8) : 520 + random.nextInt(160);
            } else {
                with[at] = random.nextInt(random.nextInt(3) == 0 ? 12 : 5);
            }
        }
        return with;
    }

    /** Answers how many calls it made. */
    private static int build(LeadlightHall hall, Random random, boolean isUp) {
        int calls = 4;
        hall.open(0, 0, 7, 7, true);
        for (int sheet = 0; sheet < 3; sheet++) {
            hall.sheet(0, 12, 12, 'h');
        }
        int width = 1 + random.nextInt(4);
        int pieces = 0;
        for (int x = 0; x < 8; x += width) {
            for (int y = 0; y < 8; y += 4) {
                hall.lay(pieces, x, y, Math.min(7, x + width - 1), y + 3);
                hall.cut(0, pieces, false);
                pieces++;
                calls += 2;
            }
        }
        for (int piece = 0; piece < pieces && isUp; piece++) {
            hall.comes();
            calls++;
        }
        if (isUp) {
            hall.solder();
            calls++;
        }
        return calls;
    }

    private static String stateOf(LeadlightHall hall) {
        StringBuilder state = new StringBuilder();
        state.append(hall.checksum()).append(' ').append(hall.price()).append(' ').append(hall.hands()).append(' ')
                .append(hall.bears()).append(' ').append(hall.isUp()).append(' ').append(hall.isSound()).append(' ')
                .append(hall.lead()).append(' ').append(hall.joints()).append(' ').append(hall.isOrderly());
        for (int piece = 0; piece < 30; piece++) {
            state.append(' ').append(hall.layers(piece, 'r')).append(hall.layers(piece, 'f')).append(hall.glass(piece));
            if (hall.glass(piece) != '-') {
                state.append(hall.colour(piece)).append(hall.year(piece)).append(hall.fits(piece));
            }
        }
        int z = hall.seed(1);
        hall.seed(z);
        state.append(' ').append(z);
        int wind = hall.wind(0);
        hall.wind(wind);
        state.append(' ').append(wind);
        for (int row = 1; row < 12; row++) {
            boolean is = hall.bar(row, true);
            hall.bar(row, is);
            state.append(is ? '1' : '0');
        }
        return state.toString();
    }
}
