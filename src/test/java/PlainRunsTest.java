import java.lang.reflect.InvocationTargetException;
import java.lang.reflect.Method;
import java.lang.reflect.Modifier;
import java.util.HashMap;
import java.util.Map;
import java.util.Random;
import java.util.TreeMap;

/** All promises, on many runs of 512 calls from the sketch to the years after: the class answers as PlainHall does. */
public final class PlainRunsTest {
    private static final int RUNS = 400;
    private static final int[] EDGES = {Integer.MIN_VALUE, -1, 0, 1, 8, 11, 12, 13, 29, 30, 100, 101, 500, 501,
        Integer.MAX_VALUE};
    private static final int[] HEATS = {500, 524, 525, 540, 555, 556, 564, 565, 580, 595, 596, 605, 620, 635, 636, 645,
        660, 675, 676, 700};
    private static final String[] ASKED = {"pieceAt", "size", "corners", "point", "hinders", "lead", "joints", "free",
        "glass", "colour", "layers", "isOrderly", "next", "isUp", "bears", "stands", "looks", "year", "hands", "fits",
        "price", "checksum", "litShare", "meanCells", "isSound"};
    private static final Map<String, Method> METHODS = new TreeMap<>();
    private static final Map<String, Method> PLAIN = new HashMap<>();
    /** How often a call answered, for each method: a run that reaches nothing tests nothing. */
    private static final Map<String, Integer> ANSWERED = new TreeMap<>();

    private final Random random;
    private final LeadlightHall hall = new LeadlightHall();
    private final PlainHall plain = new PlainHall();
    private final StringBuilder story = new StringBuilder();
    private int calls = 0;
    private boolean isAlike = true;
    /** How many numbers of pieces and colours the run uses, that some are like others. */
    private final int pieces;
    private final int colours;

    private PlainRunsTest(int seed) {
        random = new Random(seed);
        pieces = random.nextInt(4) == 0 ? 30 : 2 + random.nextInt(14);
        colours = 1 + random.nextInt(random.nextInt(3) == 0 ? 10 : 2);
    }

    public static void main(String[] args) throws Exception {
        for (Method method : LeadlightHall.class.getDeclaredMethods()) {
            if (Modifier.isPublic(method.getModifiers())) {
                METHODS.put(method.getName(), method);
                PLAIN.put(method.getName(),
                        PlainHall.class.getDeclaredMethod(method.getName(), method.getParameterTypes()));
            }
        }
        int up = 0;
        for (int seed = 0; seed < RUNS; seed++) {
            PlainRunsTest run = new PlainRunsTest(seed);
            run.all();
            up += run.plain.isUp() ? 1 : 0;
        }
        for (String name : METHODS.keySet()) {
            Check.due(name + " answered often", ANSWERED.getOrDefault(name, 0) > 200, true);
        }
        Check.due("a third of the windows went up", up > RUNS / 3, true);
        Check.end();
    }

    private void all() throws Exception {
        layOut();
        glaze();
        paintAndFire();
        lead();
        goBy();
        while (calls < 512) {
            any();
        }
    }

    /** Calls both with the same arguments, and compares. */
    private Object call(String name, Object... with) throws Exception {
        if (calls >= 512 || !isAlike) {
            calls = 512;
            return null;
        }
        calls++;
        Object got = answer(METHODS.get(name), hall, with);
        Object due = answer(PLAIN.get(name), plain, with);
        story.append(name).append(java.util.Arrays.toString(with)).append('=').append(due).append("; ");
        isAlike = got.equals(due);
        Check.due(isAlike ? name : story.toString(), got, due);
        if (!(due instanceof Class)) {
            ANSWERED.merge(name, 1, Integer::sum);
        }
        return due;
    }

    private static Object answer(Method method, Object of, Object[] with) throws Exception {
        try {
            return method.invoke(of, with);
        } catch (InvocationTargetException e) {
            return e.getCause().getClass();
        }
    }

    /** Now and then some call of any kind comes between. */
    private void between() throws Exception {
        for (int more = random.nextInt(5) == 0 ? random.nextInt(5) : 0; more > 0; more--) {
            any();
        }
    }

    private void any() throws Exception {
        boolean isAsking = random.nextInt(3) != 0;
        String name = isAsking ? ASKED[random.nextInt(ASKED.length)]
                : METHODS.keySet().toArray(new String[0])[random.nextInt(METHODS.size())];
        Class<?>[] types = METHODS.get(name).getParameterTypes();
        Object[] with = new Object[types.length];
        boolean isWild = random.nextInt(12) == 0;
        for (int at = 0; at < with.length; at++) {
            if (types[at] == boolean.class) {
                with[at] = random.nextBoolean();
            } else if (types[at] == char.class) {
                with[at] = (isWild ? "hv-tmserfx" : letters(name)).charAt(random.nextInt(isWild ? 10 : 2));
            } else if (isWild && random.nextInt(3) == 0) {
                with[at] = EDGES[random.nextInt(EDGES.length)];
            } else {
                with[at] = number(name, at);
            }
        }
        call(name, with);
    }

    private static String letters(String name) {
        return name.equals("paint") ? "tmse" : name.equals("layers") ? "rf" : "hv-";
    }

    private int number(String name, int at) {
        switch (name) {
            case "fire":
                return at == 0 ? 1 << random.nextInt(pieces) | 1 << random.nextInt(pieces) : heat();
            case "seed":
                return random.nextInt(9) == 0 ? 2147483646 : 1 + random.nextInt(1000);
            case "looks":
                return random.nextInt(at == 2 ? 24 : 12);
            case "pieceAt":
            case "hit":
                return random.nextInt(12);
            case "open":
            case "lay":
                return random.nextInt(random.nextBoolean() ? 12 : 3);
            case "years":
                return 1 + random.nextInt(40);
            case "wind":
                return random.nextInt(101);
            case "sheet":
                return at == 0 ? random.nextInt(colours) : 1 + random.nextInt(12);
            case "want":
                return at == 1 ? random.nextInt(colours) : random.nextInt(pieces);
            case "bar":
                return 1 + random.nextInt(11);
            case "profile":
                return 1 + random.nextInt(4);
            default:
                boolean isSheet = name.equals("free") || name.equals("cut") && at == 0 || name.equals("stopgap") && at == 1;
                return random.nextInt(isSheet ? 8 : pieces);
        }
    }

    private int heat() {
        return HEATS[random.nextInt(HEATS.length)];
    }

    /** Rectangles side by side, some of them then mixed up, some split. */
    private void layOut() throws Exception {
        int width = 1 + random.nextInt(12);
        int height = 1 + random.nextInt(12);
        int left = random.nextInt(13 - width);
        int low = random.nextInt(13 - height);
        call("open", left, low, left + width - 1, low + height - 1, true);
        call("isOrderly");
        int wide = 1 + random.nextInt(4);
        int high = 1 + random.nextInt(4);
        while ((width + wide - 1) / wide * ((height + high - 1) / high) > pieces) {
            wide++;
            high++;
        }
        int number = random.nextInt(pieces);
        int step = random.nextBoolean() ? 1 : pieces - 1;
        for (int y = low; y < low + height; y += high) {
            for (int x = left; x < left + width; x += wide) {
                call("lay", number, x, y, Math.min(x + wide, left + width) - 1, Math.min(y + high, low + height) - 1);
                number = (number + step) % pieces;
            }
            between();
        }
        for (int more = random.nextInt(2) * random.nextInt(8); more > 0; more--) {
            int x = left + random.nextInt(width);
            int y = low + random.nextInt(height);
            if (random.nextInt(5) == 0) {
                call("open", x, y, x, y, false);
            } else {
                call("lay", random.nextInt(pieces), x, y, Math.min(11, x + random.nextInt(2)),
                        Math.min(11, y + random.nextInt(2)));
            }
            call("isOrderly");
        }
        if (random.nextInt(3) != 0) {
            call("open", left, low, left, low, false);
        }
        for (int piece = 0; piece < 30; piece++) {
            if (plain.size(piece) > 0 && (plain.hinders(piece) != '-' || random.nextInt(9) == 0)) {
                call("hinders", piece);
                call("split", piece);
                call("corners", piece);
            }
        }
    }

    /** Each piece is tried on a few sheets, at last on one of those that it can be cut out of. */
    private void glaze() throws Exception {
        int whole = random.nextInt(colours);
        call("sheet", whole, 12, 12, random.nextBoolean() ? 'h' : 'v');
        for (int sheets = 2 + random.nextInt(3); sheets > 0; sheets--) {
            call("sheet", random.nextInt(colours), 6 + random.nextInt(7), 6 + random.nextInt(7),
                    random.nextBoolean() ? 'h' : 'v');
        }
        for (int piece = 0; piece < 30; piece++) {
            for (int tries = random.nextInt(4); tries < 6 && lacksGlass(piece); tries++) {
                if (random.nextInt(3) == 0) {
                    call("want", piece, random.nextInt(colours), "hv-".charAt(random.nextInt(3)));
                }
                call("cut", random.nextInt(4), piece, random.nextBoolean());
                between();
            }
            if (lacksGlass(piece)) {
                call("want", piece, whole, '-');
                call("cut", 0, piece, random.nextBoolean());
            }
        }
    }

    private boolean lacksGlass(int piece) {
        return plain.hinders(piece) == '-' && plain.glass(piece) == '-';
    }

    private void paintAndFire() throws Exception {
        for (int more = random.nextInt(40); more > 0; more--) {
            int piece = random.nextInt(pieces);
            call("paint", piece, "tmse".charAt(random.nextInt(4)));
            if (random.nextInt(3) == 0) {
                call("fire", 1 << piece | (random.nextBoolean() ? 1 << random.nextInt(pieces) : 0), heat());
                call("layers", piece, 'f');
            }
            between();
        }
    }

    /** What is raw is fired until it is fixed or lost; then one comes behind the other. */
    private void lead() throws Exception {
        for (int piece = 0; piece < 30; piece++) {
            for (int degrees = 540; plain.layers(piece, 'r') > 0 && degrees <= 700; degrees += 20) {
                call("fire", 1 << piece, degrees);
            }
        }
        boolean isComing = true;
        while (isComing && calls < 512) {
            between();
            call("next");
            isComing = call("comes") instanceof Integer;
        }
        if (plain.pieceAt(0, 0) == -2 && random.nextInt(9) == 0) {
            call("open", 0, 0, 0, 0, true);
            call("isSound");
        }
        call("solder");
        call("isUp");
        call("wind", random.nextInt(101));
        call("profile", 1 + random.nextInt(4));
    }

    /** Years go by, with hits and mends, mostly at a few pieces. */
    private void goBy() throws Exception {
        for (int more = 20 + random.nextInt(60); more > 0 && calls < 512; more--) {
            int x = random.nextInt(12);
            int y = random.nextInt(12);
            call("hit", x, y);
            int piece = Math.max(0, plain.pieceAt(x, y));
            call("fits", piece);
            call("looks", x, y, 9 + random.nextInt(7));
            if (random.nextInt(4) == 0) {
                call("years", random.nextInt(6) == 0 ? 100 : 1 + random.nextInt(30));
                call("bears");
                call("stands");
            }
            if (random.nextInt(3) != 0) {
                mendOrStop(piece);
            }
            between();
            call("hands");
        }
    }

    private void mendOrStop(int piece) throws Exception {
        if (random.nextBoolean()) {
            call("mend", piece);
        } else {
            call("stopgap", piece, random.nextInt(4));
        }
    }
}
