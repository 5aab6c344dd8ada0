import java.util.NoSuchElementException;
import java.util.function.Consumer;
import java.util.function.Supplier;

/**
 * Each "Throws" sentence of the document, each of its cases on its own; of two that apply, the one that is listed
 * first; and each time that the refused call changes nothing.
 */
public final class RefusedTest {
    private static final Class<IllegalArgumentException> ARGUMENT = IllegalArgumentException.class;
    private static final Class<IndexOutOfBoundsException> INDEX = IndexOutOfBoundsException.class;
    private static final Class<UnsupportedOperationException> UNSUPPORTED = UnsupportedOperationException.class;
    private static final Class<IllegalStateException> STATE = IllegalStateException.class;
    private static final Class<NoSuchElementException> NONE = NoSuchElementException.class;
    private static final int LEAST = Integer.MIN_VALUE;
    private static final int MOST = Integer.MAX_VALUE;

    /** Left, low, right, high: each end beyond the wall, and each pair the wrong way round. */
    private static final int[][] NO_CELLS = {{-1, 0, 0, 0}, {0, -1, 0, 0}, {0, 0, 12, 0}, {0, 0, 0, 12},
        {-1, 0, -1, 0}, {0, -1, 0, -1}, {12, 0, 12, 0}, {0, 12, 0, 12}, {1, 0, 0, 0}, {0, 1, 0, 0}, {11, 0, 0, 11},
        {0, 11, 11, 0}, {LEAST, 0, 0, 0}, {0, LEAST, 0, 0}, {0, 0, MOST, 0}, {0, 0, 0, MOST}, {MOST, 0, LEAST, 0}};
    private static final int[][] NO_CELL = {{-1, 0}, {0, -1}, {12, 0}, {0, 12}, {-1, 12}, {LEAST, 0}, {0, LEAST},
        {MOST, 0}, {0, MOST}};
    private static final int[] NO_PIECE = {-1, 30, 31, LEAST, MOST};

    public static void main(String[] args) {
        open();
        lay();
        numbersAndCells();
        split();
        sheet();
        want();
        cutNumbers();
        cutOfOthers();
        cutNowhere();
        colour();
        paint();
        paintFive();
        fire();
        layersAndSeed();
        nextAndComes();
        solder();
        barsAndWind();
        years();
        looks();
        hit();
        mend();
        stopgap();
        yearAndFits();
        shares();
        Check.end();
    }

    private static void refused(String call, Class<? extends RuntimeException> due, Supplier<LeadlightHall> make,
            Consumer<LeadlightHall> calls) {
        Twins.refused(call, due, make, calls);
    }

    // Windows to be asked.

    /** Piece 2 has a point of 5; (4, 1) is stone, (4, 2) bare; sheet 0 is just right for a square. */
    private static LeadlightHall drawn() {
        LeadlightHall hall = OpeningTest.wall("0011.", "0011#", "22222");
        hall.sheet(0, 2, 2, 'h');
        hall.sheet(3, 12, 12, 'v');
        hall.want(1, 3, 'h');
        hall.want(29, 7, 'v');
        hall.bar(3, true);
        hall.wind(9);
        hall.profile(2);
        hall.years(4);
        return hall;
    }

    /** Piece 0 has glass, a fixed layer, and one that is raw. */
    private static LeadlightHall painted() {
        LeadlightHall hall = drawn();
        hall.cut(0, 0, false);
        hall.paint(0, 't');
        hall.fire(1, 660);
        hall.paint(0, 'm');
        return hall;
    }

    /** Pieces 0 to 6 in a row are cut, of which 0 is leaded; 7 has no glass; (8, 0) is bare. */
    private static LeadlightHall led() {
        LeadlightHall hall = OpeningTest.wall("01234567.");
        hall.sheet(0, 12, 1, 'h');
        for (int piece = 0; piece < 7; piece++) {
            hall.cut(0, piece, false);
        }
        hall.comes();
        return hall;
    }

    /** As led(), but that piece 6 has a raw trace. */
    private static LeadlightHall ledAndRaw() {
        LeadlightHall hall = led();
        hall.paint(6, 't');
        return hall;
    }

    private static LeadlightHall up() {
        return LeadingTest.upWindow();
    }

    /** Both pieces are broken; sheet 0 has 140 free cells, sheet 1 takes a piece only if it is turned. */
    private static LeadlightHall broken() {
        LeadlightHall hall = up();
        hall.sheet(0, 1, 2, 'h');
        hall.hit(0, 0);
        hall.hit(0, 1);
        return hall;
    }

    /** All 30 numbers have cells, four each. */
    private static LeadlightHall full() {
        LeadlightHall hall = new LeadlightHall();
        hall.open(0, 0, 11, 9, true);
        for (int piece = 0; piece < 30; piece++) {
            hall.lay(piece, piece % 6 * 2, piece / 6 * 2, piece % 6 * 2 + 1, piece / 6 * 2 + 1);
        }
        hall.sheet(0, 12, 12, 'h');
        return hall;
    }

    private static LeadlightHall fullAndUp() {
        LeadlightHall hall = full();
        for (int piece = 0; piece < 30; piece++) {
            hall.cut(0, piece, false);
        }
        for (int piece = 0; piece < 30; piece++) {
            hall.comes();
        }
        hall.solder();
        return hall;
    }

    private static LeadlightHall withSheets(int count) {
        LeadlightHall hall = new LeadlightHall();
        for (int sheet = 0; sheet < count; sheet++) {
            hall.sheet(sheet, sheet + 1, sheet + 1, 'h');
        }
        return hall;
    }

    /** One piece of one cell with glass and these layers, raw; it is fired after each '*' ahead of a letter. */
    private static LeadlightHall layered(String layers) {
        LeadlightHall hall = OpeningTest.wall("0");
        hall.sheet(0, 12, 12, 'h');
        hall.cut(0, 0, false);
        for (int at = 0; at < layers.length(); at++) {
            if (layers.charAt(at) == '*') {
                hall.fire(1, 580);
            } else {
                hall.paint(0, layers.charAt(at));
            }
        }
        return hall;
    }

    private static LeadlightHall inYear(int year) {
        LeadlightHall hall = new LeadlightHall();
        for (int left = year; left > 0; left -= Math.min(500, left)) {
            hall.years(Math.min(500, left));
        }
        return hall;
    }

    // Promises 2 to 11.

    private static void open() {
        for (int[] at : NO_CELLS) {
            for (boolean isOpen : new boolean[] {true, false}) {
                String call = "open(" + at[0] + ", " + at[1] + ", " + at[2] + ", " + at[3] + ", " + isOpen + ")";
                Consumer<LeadlightHall> calls = hall -> hall.open(at[0], at[1], at[2], at[3], isOpen);
                refused("no such cells: " + call, ARGUMENT, RefusedTest::drawn, calls);
                refused("no such cells, where glass is: " + call, ARGUMENT, RefusedTest::painted, calls);
                refused("no such cells, as it is up: " + call, ARGUMENT, RefusedTest::up, calls);
            }
        }
        for (boolean isOpen : new boolean[] {true, false}) {
            refused("open: glass has the one cell", UNSUPPORTED, RefusedTest::painted, h -> h.open(1, 2, 1, 2, isOpen));
            refused("open: glass has the first", UNSUPPORTED, RefusedTest::painted, h -> h.open(1, 2, 11, 11, isOpen));
            refused("open: glass has the last", UNSUPPORTED, RefusedTest::painted, h -> h.open(0, 0, 0, 1, isOpen));
            refused("open: glass has some of all", UNSUPPORTED, RefusedTest::painted,
                    h -> h.open(0, 0, 11, 11, isOpen));
            refused("open: leaded glass has one", UNSUPPORTED, RefusedTest::led, h -> h.open(0, 0, 0, 0, isOpen));
            refused("open: up, only stone", UNSUPPORTED, RefusedTest::up, h -> h.open(11, 11, 11, 11, isOpen));
            refused("open: up, broken glass", UNSUPPORTED, RefusedTest::broken, h -> h.open(0, 0, 0, 0, isOpen));
        }
    }

    private static void lay() {
        for (int piece : NO_PIECE) {
            refused("lay: no such piece", INDEX, RefusedTest::drawn, h -> h.lay(piece, 0, 0, 0, 0));
            refused("lay: no such piece, nor cells", INDEX, RefusedTest::drawn, h -> h.lay(piece, 0, 0, 12, 0));
            refused("lay: no such piece, onto stone", INDEX, RefusedTest::drawn, h -> h.lay(piece, 9, 9, 9, 9));
            refused("lay: no such piece, over glass", INDEX, RefusedTest::painted, h -> h.lay(piece, 0, 1, 0, 1));
            refused("lay: no such piece, as it is up", INDEX, RefusedTest::up, h -> h.lay(piece, 0, 0, 0, 0));
        }
        for (int[] at : NO_CELLS) {
            Consumer<LeadlightHall> calls = hall -> hall.lay(0, at[0], at[1], at[2], at[3]);
            refused("lay: no such cells", ARGUMENT, RefusedTest::drawn, calls);
            refused("lay: no such cells, and it has glass", ARGUMENT, RefusedTest::painted, calls);
            refused("lay: no such cells, as it is up", ARGUMENT, RefusedTest::up, calls);
        }
        refused("lay: the one cell is stone", UNSUPPORTED, RefusedTest::drawn, h -> h.lay(0, 4, 1, 4, 1));
        refused("lay: all cells are stone", UNSUPPORTED, RefusedTest::drawn, h -> h.lay(5, 5, 0, 11, 11));
        refused("lay: the wall is stone", UNSUPPORTED, LeadlightHall::new, h -> h.lay(0, 0, 0, 11, 11));
        refused("lay: it has glass", UNSUPPORTED, RefusedTest::painted, h -> h.lay(0, 4, 2, 4, 2));
        refused("lay: it has glass, its own cells", UNSUPPORTED, RefusedTest::painted, h -> h.lay(0, 0, 1, 1, 2));
        refused("lay: the loser has glass", UNSUPPORTED, RefusedTest::painted, h -> h.lay(1, 1, 1, 1, 1));
        refused("lay: one of the losers has glass", UNSUPPORTED, RefusedTest::painted, h -> h.lay(9, 0, 0, 11, 11));
        refused("lay: the loser is leaded", UNSUPPORTED, RefusedTest::led, h -> h.lay(9, 0, 0, 0, 0));
        refused("lay: up", UNSUPPORTED, RefusedTest::up, h -> h.lay(9, 0, 0, 0, 0));
        refused("lay: up, onto stone", UNSUPPORTED, RefusedTest::up, h -> h.lay(9, 9, 9, 9, 9));
    }

    private static void numbersAndCells() {
        for (int[] at : NO_CELL) {
            refused("pieceAt: no such cell", ARGUMENT, RefusedTest::drawn, h -> h.pieceAt(at[0], at[1]));
            refused("pieceAt: no such cell, as it is up", ARGUMENT, RefusedTest::up, h -> h.pieceAt(at[0], at[1]));
        }
        for (int piece : NO_PIECE) {
            refused("size: no such piece", INDEX, RefusedTest::drawn, h -> h.size(piece));
            refused("corners: no such piece", INDEX, RefusedTest::drawn, h -> h.corners(piece));
            refused("point: no such piece", INDEX, RefusedTest::drawn, h -> h.point(piece));
            refused("hinders: no such piece", INDEX, RefusedTest::drawn, h -> h.hinders(piece));
            refused("glass: no such piece", INDEX, RefusedTest::drawn, h -> h.glass(piece));
        }
    }

    private static void split() {
        for (int piece : NO_PIECE) {
            refused("split: no such piece", INDEX, RefusedTest::drawn, h -> h.split(piece));
            refused("split: no such piece, all numbers", INDEX, RefusedTest::full, h -> h.split(piece));
            refused("split: no such piece, as it is up", INDEX, RefusedTest::up, h -> h.split(piece));
        }
        refused("split: it has glass", UNSUPPORTED, RefusedTest::painted, h -> h.split(0));
        refused("split: it has no cells", UNSUPPORTED, RefusedTest::drawn, h -> h.split(29));
        refused("split: it has one cell", UNSUPPORTED, () -> OpeningTest.wall("0"), h -> h.split(0));
        refused("split: nine in a row", UNSUPPORTED, () -> OpeningTest.wall("000000000"), h -> h.split(0));
        refused("split: three apart", UNSUPPORTED, () -> OpeningTest.wall("0#0#0"), h -> h.split(0));
        refused("split: a comb has too many corners", UNSUPPORTED,
                () -> OpeningTest.wall("0#0#0#0#0#0", "00000000000"), h -> h.split(0));
        refused("split: up", UNSUPPORTED, RefusedTest::up, h -> h.split(0));
        refused("split: up, no cells", UNSUPPORTED, RefusedTest::up, h -> h.split(29));
        refused("split: all numbers have cells", STATE, RefusedTest::full, h -> h.split(0));
        refused("split: all numbers have cells", STATE, RefusedTest::full, h -> h.split(29));
        refused("split: glass, and all numbers", UNSUPPORTED, () -> {
            LeadlightHall hall = full();
            hall.cut(0, 3, false);
            return hall;
        }, h -> h.split(3));
        refused("split: no lead can be, and all numbers", UNSUPPORTED, () -> {
            LeadlightHall hall = full();
            hall.lay(4, 6, 0, 7, 0);
            hall.lay(4, 6, 1, 6, 1);
            return hall;
        }, h -> h.split(3));
        refused("split: up, and all numbers", UNSUPPORTED, RefusedTest::fullAndUp, h -> h.split(0));
    }

    // Promises 12 to 21.

    private static void sheet() {
        int[][] bad = {{-1, 1, 1}, {10, 1, 1}, {LEAST, 1, 1}, {MOST, 1, 1}, {0, 0, 1}, {0, 13, 1}, {0, LEAST, 1},
            {0, MOST, 1}, {0, 1, 0}, {0, 1, 13}, {0, 1, LEAST}, {0, 1, MOST}, {0, -1, -1}};
        for (int[] of : bad) {
            refused("sheet: out of range", ARGUMENT, RefusedTest::drawn, h -> h.sheet(of[0], of[1], of[2], 'h'));
            refused("sheet: out of range, the ninth", ARGUMENT, () -> withSheets(8),
                    h -> h.sheet(of[0], of[1], of[2], 'v'));
        }
        for (char streaks : new char[] {'-', 'H', 'V', 'x', 'g', 'i', 'u', 'w', (char) 0, (char) 65535}) {
            refused("sheet: no such streaks", ARGUMENT, RefusedTest::drawn, h -> h.sheet(0, 1, 1, streaks));
            refused("sheet: no such streaks, the ninth", ARGUMENT, () -> withSheets(8), h -> h.sheet(0, 1, 1, streaks));
        }
        refused("sheet: the ninth", STATE, () -> withSheets(8), h -> h.sheet(0, 1, 1, 'h'));
        for (int sheet : new int[] {-1, 2, 3, 7, 8, LEAST, MOST}) {
            refused("free: no such sheet", INDEX, RefusedTest::drawn, h -> h.free(sheet));
        }
        refused("free: without sheets", INDEX, LeadlightHall::new, h -> h.free(0));
        refused("free: behind the eighth", INDEX, () -> withSheets(8), h -> h.free(8));
        refused("free: ahead of the first", INDEX, () -> withSheets(8), h -> h.free(-1));
    }

    private static void want() {
        for (int piece : NO_PIECE) {
            refused("want: no such piece", INDEX, RefusedTest::drawn, h -> h.want(piece, 0, '-'));
            refused("want: no such piece, nor colour", INDEX, RefusedTest::drawn, h -> h.want(piece, 10, '-'));
            refused("want: no such piece, nor streaks", INDEX, RefusedTest::drawn, h -> h.want(piece, 0, 'x'));
            refused("want: no such piece, as it is up", INDEX, RefusedTest::up, h -> h.want(piece, 0, '-'));
        }
        for (int colour : new int[] {-1, 10, LEAST, MOST}) {
            refused("want: no such colour", ARGUMENT, RefusedTest::drawn, h -> h.want(1, colour, 'h'));
            refused("want: no such colour, and it has glass", ARGUMENT, RefusedTest::painted,
                    h -> h.want(0, colour, '-'));
            refused("want: no such colour, as it is up", ARGUMENT, RefusedTest::up, h -> h.want(20, colour, '-'));
        }
        for (char streaks : new char[] {'x', 'H', 'V', ' ', (char) 0, (char) 65535}) {
            refused("want: no such streaks", ARGUMENT, RefusedTest::drawn, h -> h.want(1, 4, streaks));
            refused("want: no such streaks, and it has glass", ARGUMENT, RefusedTest::painted,
                    h -> h.want(0, 4, streaks));
            refused("want: no such streaks, as it is up", ARGUMENT, RefusedTest::up, h -> h.want(20, 4, streaks));
        }
        refused("want: it has glass", UNSUPPORTED, RefusedTest::painted, h -> h.want(0, 5, 'v'));
        refused("want: it has glass, and wants the same", UNSUPPORTED, RefusedTest::painted, h -> h.want(0, 0, '-'));
        refused("want: it is leaded", UNSUPPORTED, RefusedTest::led, h -> h.want(0, 5, 'v'));
        refused("want: up", UNSUPPORTED, RefusedTest::up, h -> h.want(0, 5, 'v'));
        refused("want: up, one without cells", UNSUPPORTED, RefusedTest::up, h -> h.want(29, 5, 'v'));
        refused("want: up, a broken one", UNSUPPORTED, RefusedTest::broken, h -> h.want(0, 5, 'v'));
    }

    private static void cutNumbers() {
        for (int sheet : new int[] {-1, 2, 7, 8, LEAST, MOST}) {
            refused("cut: no such sheet", INDEX, RefusedTest::drawn, h -> h.cut(sheet, 0, false));
            refused("cut: no such sheet, nor piece", INDEX, RefusedTest::drawn, h -> h.cut(sheet, 30, false));
            refused("cut: no such sheet, it has glass", INDEX, RefusedTest::painted, h -> h.cut(sheet, 0, false));
            refused("cut: no such sheet, as it is up", INDEX, RefusedTest::up, h -> h.cut(sheet, 0, false));
        }
        for (int piece : NO_PIECE) {
            refused("cut: no such piece", INDEX, RefusedTest::drawn, h -> h.cut(0, piece, false));
            refused("cut: no such piece, turned", INDEX, RefusedTest::drawn, h -> h.cut(1, piece, true));
            refused("cut: no such piece, as it is up", INDEX, RefusedTest::up, h -> h.cut(0, piece, false));
        }
        refused("cut: without sheets", INDEX, LeadlightHall::new, h -> h.cut(0, 0, false));
    }

    private static void cutOfOthers() {
        refused("cut: it has glass", ARGUMENT, () -> {
            LeadlightHall hall = painted();
            hall.sheet(0, 12, 12, 'h');
            return hall;
        }, h -> h.cut(2, 0, false));
        refused("cut: it has glass, and is nowhere free", ARGUMENT, RefusedTest::painted, h -> h.cut(0, 0, false));
        refused("cut: it is leaded", ARGUMENT, RefusedTest::led, h -> h.cut(0, 0, false));
        refused("cut: it has glass, as it is up", ARGUMENT, RefusedTest::up, h -> h.cut(0, 0, false));
        refused("cut: no cells, as it is up", ARGUMENT, RefusedTest::up, h -> h.cut(0, 29, false));
        refused("cut: wants another colour", ARGUMENT, RefusedTest::drawn, h -> h.cut(1, 0, false));
        refused("cut: wants another colour, turned", ARGUMENT, RefusedTest::drawn, h -> h.cut(1, 0, true));
        refused("cut: wants other streaks", ARGUMENT, RefusedTest::drawn, h -> h.cut(1, 1, false));
        refused("cut: wants other streaks if turned", ARGUMENT, () -> {
            LeadlightHall hall = drawn();
            hall.want(0, 0, 'h');
            return hall;
        }, h -> h.cut(0, 0, true));
        refused("cut: wants another colour, and is nowhere free", ARGUMENT, () -> {
            LeadlightHall hall = drawn();
            hall.sheet(9, 1, 1, 'h');
            return hall;
        }, h -> h.cut(2, 0, false));
        refused("cut: wants other streaks, and is nowhere free", ARGUMENT, () -> {
            LeadlightHall hall = drawn();
            hall.sheet(3, 1, 1, 'v');
            return hall;
        }, h -> h.cut(2, 1, false));
        String[][] hindered = {{"."}, {"0#", "#0"}, {"#0#", "000", "#0#"}, {"00000"}};
        String[] by = {"no cells", "not whole", "corners", "a point"};
        for (int which = 0; which < hindered.length; which++) {
            String[] rows = hindered[which];
            refused("cut: " + by[which], ARGUMENT, () -> {
                LeadlightHall hall = OpeningTest.wall(rows);
                hall.sheet(0, 12, 12, 'h');
                return hall;
            }, h -> h.cut(0, 0, false));
            refused("cut: " + by[which] + ", and nowhere free", ARGUMENT, () -> {
                LeadlightHall hall = OpeningTest.wall(rows);
                hall.sheet(0, 1, 1, 'h');
                return hall;
            }, h -> h.cut(0, 0, true));
        }
    }

    private static void cutNowhere() {
        int[][] small = {{1, 2}, {2, 1}, {1, 12}, {12, 1}, {1, 1}};
        for (int[] sides : small) {
            refused("cut: the sheet is too small", UNSUPPORTED, () -> {
                LeadlightHall hall = OpeningTest.wall("00", "00");
                hall.sheet(0, sides[0], sides[1], 'h');
                return hall;
            }, h -> h.cut(0, 0, false));
        }
        Supplier<LeadlightHall> upright = () -> {
            LeadlightHall hall = OpeningTest.wall("0", "0", "0");
            hall.sheet(0, 12, 2, 'h');
            hall.sheet(0, 2, 12, 'h');
            return hall;
        };
        refused("cut: too high unless it is turned", UNSUPPORTED, upright, h -> h.cut(0, 0, false));
        refused("cut: too wide if it is turned", UNSUPPORTED, upright, h -> h.cut(1, 0, true));
        refused("cut: all is used", UNSUPPORTED, () -> {
            LeadlightHall hall = OpeningTest.wall("0011", "0011");
            hall.sheet(0, 2, 2, 'h');
            hall.cut(0, 0, false);
            return hall;
        }, h -> h.cut(0, 1, false));
        refused("cut: what is free, four cells, is no square", UNSUPPORTED, () -> {
            LeadlightHall hall = OpeningTest.wall("00#12", "00###");
            hall.sheet(0, 3, 2, 'h');
            hall.cut(0, 1, false);
            hall.cut(0, 2, false);
            return hall;
        }, h -> h.cut(0, 0, false));
        refused("cut: what broke has used the sheet", UNSUPPORTED, () -> {
            LeadlightHall hall = OpeningTest.wall("0#", "00");
            hall.sheet(0, 2, 2, 'h');
            hall.seed(breaking(10));
            hall.cut(0, 0, false);
            return hall;
        }, h -> h.cut(0, 0, false));
    }

    /** A z by which the next cut breaks, if less than that is needed of z modulo 100. */
    static int breaking(int below) {
        int z = 1;
        while (z * 48271L % 2147483647L % 100 >= below) {
            z++;
        }
        return z;
    }

    private static void colour() {
        for (int piece : NO_PIECE) {
            refused("colour: no such piece", INDEX, RefusedTest::painted, h -> h.colour(piece));
        }
        refused("colour: no glass", NONE, RefusedTest::painted, h -> h.colour(1));
        refused("colour: no cells", NONE, RefusedTest::painted, h -> h.colour(29));
        refused("colour: its glass broke at cutting", NONE, () -> {
            LeadlightHall hall = OpeningTest.wall("0#", "00");
            hall.sheet(0, 12, 12, 'h');
            hall.seed(breaking(10));
            hall.cut(0, 0, false);
            return hall;
        }, h -> h.colour(0));
    }

    private static void paint() {
        for (int piece : NO_PIECE) {
            refused("paint: no such piece", INDEX, RefusedTest::painted, h -> h.paint(piece, 't'));
            refused("paint: no such piece, nor kind", INDEX, RefusedTest::painted, h -> h.paint(piece, 'x'));
            refused("paint: no such piece, as it is up", INDEX, RefusedTest::up, h -> h.paint(piece, 't'));
        }
        for (char kind : new char[] {'x', 'T', 'S', '-', 'r', 'f', 'l', 'd', 'n', 'u', (char) 0, (char) 65535}) {
            refused("paint: no such kind", ARGUMENT, RefusedTest::painted, h -> h.paint(0, kind));
            refused("paint: no such kind, nor glass", ARGUMENT, RefusedTest::painted, h -> h.paint(1, kind));
            refused("paint: no such kind, as it is leaded", ARGUMENT, RefusedTest::led, h -> h.paint(0, kind));
            refused("paint: no such kind, as it is up", ARGUMENT, RefusedTest::up, h -> h.paint(0, kind));
            refused("paint: no such kind, and 5", ARGUMENT, () -> layered("ttttt"), h -> h.paint(0, kind));
        }
        for (char kind : new char[] {'t', 'm', 's', 'e'}) {
            refused("paint: no glass", UNSUPPORTED, RefusedTest::painted, h -> h.paint(1, kind));
            refused("paint: no cells", UNSUPPORTED, RefusedTest::painted, h -> h.paint(29, kind));
            refused("paint: leaded", UNSUPPORTED, RefusedTest::led, h -> h.paint(0, kind));
            refused("paint: up", UNSUPPORTED, RefusedTest::up, h -> h.paint(0, kind));
            refused("paint: up, no glass", UNSUPPORTED, RefusedTest::up, h -> h.paint(29, kind));
            refused("paint: up, broken", UNSUPPORTED, RefusedTest::broken, h -> h.paint(0, kind));
        }
        refused("paint: raw stain, for stain", UNSUPPORTED, () -> layered("s"), h -> h.paint(0, 's'));
        refused("paint: fixed stain, for stain", UNSUPPORTED, () -> layered("s*"), h -> h.paint(0, 's'));
        refused("paint: stain under others, for stain", UNSUPPORTED, () -> layered("sttm"), h -> h.paint(0, 's'));
    }

    private static void paintFive() {
        for (char kind : new char[] {'t', 'm', 's', 'e'}) {
            refused("paint: 5 raw", STATE, () -> layered("ttttt"), h -> h.paint(0, kind));
            refused("paint: 5 of all kinds but stain", STATE, () -> layered("tmetm"), h -> h.paint(0, kind));
        }
        for (char kind : new char[] {'t', 'm', 'e'}) {
            refused("paint: 4 raw, 1 fixed", STATE, () -> layered("s*tttt"), h -> h.paint(0, kind));
            refused("paint: 4 raw, 1 fixed", STATE, () -> layered("tttts*"), h -> h.paint(0, kind));
        }
        refused("paint: 5 with stain, for stain", UNSUPPORTED, () -> layered("stttt"), h -> h.paint(0, 's'));
        refused("paint: 5, and leaded", UNSUPPORTED, () -> {
            LeadlightHall hall = layered("ttttt");
            hall.fire(1, 660);
            hall.comes();
            return hall;
        }, h -> h.paint(0, 't'));
        refused("paint: 5, and up", UNSUPPORTED, () -> {
            LeadlightHall hall = layered("ttttt");
            hall.fire(1, 660);
            hall.comes();
            hall.solder();
            return hall;
        }, h -> h.paint(0, 't'));
    }

    private static void fire() {
        int[] bad = {0, 127, 1 << 30, 1 << 31, 1 | 1 << 30, 2 | 1 << 31, LEAST, MOST, -1, 1 << 29 | 63};
        for (int pieces : bad) {
            refused("fire: no such pieces", ARGUMENT, RefusedTest::ledAndRaw, h -> h.fire(pieces, 660));
            refused("fire: no such pieces, as it is up", ARGUMENT, RefusedTest::up, h -> h.fire(pieces, 660));
        }
        for (int degrees : new int[] {499, 701, 0, -660, LEAST, MOST}) {
            refused("fire: no such degrees", ARGUMENT, RefusedTest::ledAndRaw, h -> h.fire(1 << 6, degrees));
            refused("fire: no such degrees, no glass", ARGUMENT, RefusedTest::ledAndRaw, h -> h.fire(1 << 7, degrees));
            refused("fire: no such degrees, leaded", ARGUMENT, RefusedTest::ledAndRaw, h -> h.fire(1, degrees));
            refused("fire: no such degrees, as it is up", ARGUMENT, RefusedTest::up, h -> h.fire(1, degrees));
        }
        refused("fire: no glass", UNSUPPORTED, RefusedTest::ledAndRaw, h -> h.fire(1 << 7, 660));
        refused("fire: one has no glass", UNSUPPORTED, RefusedTest::ledAndRaw, h -> h.fire(1 << 6 | 1 << 7, 660));
        refused("fire: one has no cells", UNSUPPORTED, RefusedTest::ledAndRaw, h -> h.fire(1 << 6 | 1 << 29, 660));
        refused("fire: leaded", UNSUPPORTED, RefusedTest::ledAndRaw, h -> h.fire(1, 660));
        refused("fire: one is leaded", UNSUPPORTED, RefusedTest::ledAndRaw, h -> h.fire(1 << 6 | 1, 660));
        refused("fire: up", UNSUPPORTED, RefusedTest::up, h -> h.fire(1, 660));
        refused("fire: up, no glass", UNSUPPORTED, RefusedTest::up, h -> h.fire(1 << 29, 660));
        refused("fire: up, broken", UNSUPPORTED, RefusedTest::broken, h -> h.fire(1, 660));
    }

    private static void layersAndSeed() {
        for (int piece : NO_PIECE) {
            refused("layers: no such piece", INDEX, RefusedTest::painted, h -> h.layers(piece, 'r'));
            refused("layers: no such piece, nor letter", INDEX, RefusedTest::painted, h -> h.layers(piece, 'x'));
        }
        for (char how : new char[] {'x', 'R', 'F', 'l', 't', '-', 'q', 's', 'e', 'g', (char) 0, (char) 65535}) {
            refused("layers: no such letter", ARGUMENT, RefusedTest::painted, h -> h.layers(0, how));
            refused("layers: no such letter, nor glass", ARGUMENT, RefusedTest::painted, h -> h.layers(29, how));
        }
        for (int z : new int[] {0, -1, LEAST, MOST}) {
            refused("seed: out of range", ARGUMENT, RefusedTest::painted, h -> h.seed(z));
            refused("seed: out of range, as it is up", ARGUMENT, RefusedTest::up, h -> h.seed(z));
        }
    }

    // Promises 22 to 31.

    private static void nextAndComes() {
        noneCanCome("stone", LeadlightHall::new);
        noneCanCome("no glass", RefusedTest::drawn);
        noneCanCome("a raw layer", () -> layered("t"));
        noneCanCome("a raw layer with a fixed one", () -> layered("s*t"));
        noneCanCome("bare to the left", () -> LeadingTest.cutAll(".0"));
        noneCanCome("bare below", () -> LeadingTest.cutAll("0", "."));
        noneCanCome("bare below a cell that is not its lowest", () -> LeadingTest.cutAll("00", ".0"));
        noneCanCome("no glass to the left", () -> {
            LeadlightHall hall = OpeningTest.wall("01");
            hall.sheet(0, 12, 12, 'h');
            hall.cut(0, 1, false);
            return hall;
        });
        noneCanCome("raw to the left", () -> {
            LeadlightHall hall = LeadingTest.cutAll("01");
            hall.paint(0, 't');
            return hall;
        });
        noneCanCome("each waits for the other", () -> LeadingTest.cutAll("100", "110", "#00"));
        noneCanCome("all are leaded", () -> {
            LeadlightHall hall = LeadingTest.cutAll("01");
            hall.comes();
            hall.comes();
            return hall;
        });
        noneCanCome("up", RefusedTest::up);
        noneCanCome("up, broken", RefusedTest::broken);
    }

    private static void noneCanCome(String why, Supplier<LeadlightHall> make) {
        refused("next: " + why, NONE, make, LeadlightHall::next);
        refused("comes: " + why, NONE, make, LeadlightHall::comes);
    }

    private static void solder() {
        refused("solder: there is no piece", UNSUPPORTED, LeadlightHall::new, LeadlightHall::solder);
        refused("solder: there is no piece, only bare cells", UNSUPPORTED, () -> OpeningTest.wall(".."),
                LeadlightHall::solder);
        refused("solder: no glass", UNSUPPORTED, () -> OpeningTest.wall("0"), LeadlightHall::solder);
        refused("solder: cut, not leaded", UNSUPPORTED, () -> LeadingTest.cutAll("0"), LeadlightHall::solder);
        refused("solder: one is cut, not leaded", UNSUPPORTED, () -> {
            LeadlightHall hall = LeadingTest.cutAll("01");
            hall.comes();
            return hall;
        }, LeadlightHall::solder);
        refused("solder: one has no glass", UNSUPPORTED, () -> {
            LeadlightHall hall = LeadingTest.cutAll("0");
            hall.comes();
            hall.open(11, 11, 11, 11, true);
            hall.lay(29, 11, 11, 11, 11);
            return hall;
        }, LeadlightHall::solder);
        refused("solder: an open cell is bare", UNSUPPORTED, () -> {
            LeadlightHall hall = LeadingTest.cutAll("0");
            hall.comes();
            hall.open(11, 11, 11, 11, true);
            return hall;
        }, LeadlightHall::solder);
        refused("solder: up", UNSUPPORTED, RefusedTest::up, LeadlightHall::solder);
        refused("solder: up, broken", UNSUPPORTED, RefusedTest::broken, LeadlightHall::solder);
    }

    private static void barsAndWind() {
        for (int row : new int[] {0, 12, -1, 13, 32, 33, LEAST, MOST}) {
            refused("bar: no such row", ARGUMENT, RefusedTest::drawn, h -> h.bar(row, true));
            refused("no bar: no such row", ARGUMENT, RefusedTest::drawn, h -> h.bar(row, false));
            refused("bar: no such row, as it is up", ARGUMENT, RefusedTest::up, h -> h.bar(row, true));
        }
        for (int profile : new int[] {0, 5, -1, LEAST, MOST}) {
            refused("profile: out of range", ARGUMENT, RefusedTest::drawn, h -> h.profile(profile));
            refused("profile: out of range, as it is up", ARGUMENT, RefusedTest::up, h -> h.profile(profile));
        }
        for (int profile = 1; profile <= 4; profile++) {
            int now = profile;
            refused("profile: up", UNSUPPORTED, RefusedTest::up, h -> h.profile(now));
        }
        for (int wind : new int[] {-1, 101, LEAST, MOST}) {
            refused("wind: out of range", ARGUMENT, RefusedTest::drawn, h -> h.wind(wind));
            refused("wind: out of range, as it is up", ARGUMENT, RefusedTest::up, h -> h.wind(wind));
        }
    }

    // Promises 32 to 40.

    private static void years() {
        for (int years : new int[] {0, -1, 501, LEAST, MOST}) {
            refused("years: out of range", ARGUMENT, RefusedTest::drawn, h -> h.years(years));
            refused("years: out of range, as it is up", ARGUMENT, RefusedTest::up, h -> h.years(years));
            refused("years: out of range, in 2000", ARGUMENT, () -> inYear(2000), h -> h.years(years));
        }
        refused("years: above 2000 by 1", STATE, () -> inYear(2000), h -> h.years(1));
        refused("years: above 2000 by 1", STATE, () -> inYear(1999), h -> h.years(2));
        refused("years: above 2000 by 1", STATE, () -> inYear(1501), h -> h.years(500));
        refused("years: above 2000 by 500", STATE, () -> inYear(2000), h -> h.years(500));
    }

    private static void looks() {
        for (int[] at : NO_CELL) {
            refused("looks: no such cell", ARGUMENT, RefusedTest::painted, h -> h.looks(at[0], at[1], 12));
            refused("looks: no such cell, nor hour", ARGUMENT, RefusedTest::painted, h -> h.looks(at[0], at[1], 24));
        }
        for (int hour : new int[] {-1, 24, LEAST, MOST}) {
            refused("looks: no such hour", ARGUMENT, RefusedTest::painted, h -> h.looks(0, 0, hour));
            refused("looks: no such hour, stone", ARGUMENT, RefusedTest::painted, h -> h.looks(11, 11, hour));
        }
    }

    private static void hit() {
        for (int[] at : NO_CELL) {
            refused("hit: no such cell", ARGUMENT, RefusedTest::up, h -> h.hit(at[0], at[1]));
            refused("hit: no such cell, not up", ARGUMENT, RefusedTest::painted, h -> h.hit(at[0], at[1]));
        }
        refused("hit: not up, stone", UNSUPPORTED, LeadlightHall::new, h -> h.hit(0, 0));
        refused("hit: not up, bare", UNSUPPORTED, RefusedTest::drawn, h -> h.hit(4, 2));
        refused("hit: not up, no glass", UNSUPPORTED, RefusedTest::drawn, h -> h.hit(0, 0));
        refused("hit: not up, cut", UNSUPPORTED, RefusedTest::painted, h -> h.hit(0, 1));
        refused("hit: not up, leaded", UNSUPPORTED, RefusedTest::led, h -> h.hit(0, 0));
    }

    private static void mend() {
        for (int piece : NO_PIECE) {
            refused("mend: no such piece", INDEX, RefusedTest::broken, h -> h.mend(piece));
            refused("mend: no such piece, not up", INDEX, RefusedTest::drawn, h -> h.mend(piece));
        }
        refused("mend: no glass", UNSUPPORTED, RefusedTest::drawn, h -> h.mend(0));
        refused("mend: no cells", UNSUPPORTED, RefusedTest::broken, h -> h.mend(29));
        refused("mend: cut", UNSUPPORTED, RefusedTest::painted, h -> h.mend(0));
        refused("mend: leaded, not up", UNSUPPORTED, RefusedTest::led, h -> h.mend(0));
        refused("mend: whole", UNSUPPORTED, RefusedTest::up, h -> h.mend(0));
        refused("mend: mended", UNSUPPORTED, () -> {
            LeadlightHall hall = broken();
            hall.mend(0);
            return hall;
        }, h -> h.mend(0));
        refused("mend: a stopgap", UNSUPPORTED, () -> {
            LeadlightHall hall = broken();
            hall.stopgap(0, 0);
            return hall;
        }, h -> h.mend(0));
    }

    private static void stopgap() {
        for (int piece : NO_PIECE) {
            refused("stopgap: no such piece", INDEX, RefusedTest::broken, h -> h.stopgap(piece, 0));
            refused("stopgap: no such piece, nor sheet", INDEX, RefusedTest::broken, h -> h.stopgap(piece, 2));
            refused("stopgap: no such piece, not up", INDEX, RefusedTest::drawn, h -> h.stopgap(piece, 0));
        }
        for (int sheet : new int[] {-1, 2, 7, 8, LEAST, MOST}) {
            refused("stopgap: no such sheet", INDEX, RefusedTest::broken, h -> h.stopgap(0, sheet));
            refused("stopgap: no such sheet, not broken", INDEX, RefusedTest::drawn, h -> h.stopgap(0, sheet));
        }
        refused("stopgap: no glass", UNSUPPORTED, RefusedTest::drawn, h -> h.stopgap(0, 0));
        refused("stopgap: no cells", UNSUPPORTED, RefusedTest::broken, h -> h.stopgap(29, 0));
        refused("stopgap: cut", UNSUPPORTED, RefusedTest::painted, h -> h.stopgap(0, 1));
        refused("stopgap: leaded, not up", UNSUPPORTED, RefusedTest::led, h -> h.stopgap(0, 0));
        refused("stopgap: whole", UNSUPPORTED, RefusedTest::up, h -> h.stopgap(0, 0));
        refused("stopgap: mended", UNSUPPORTED, () -> {
            LeadlightHall hall = broken();
            hall.mend(0);
            return hall;
        }, h -> h.stopgap(0, 0));
        refused("stopgap: 100 years old", UNSUPPORTED, () -> {
            LeadlightHall hall = broken();
            hall.years(100);
            return hall;
        }, h -> h.stopgap(0, 0));
        refused("stopgap: 600 years old", UNSUPPORTED, () -> {
            LeadlightHall hall = broken();
            hall.years(500);
            hall.years(100);
            return hall;
        }, h -> h.stopgap(0, 0));
        refused("stopgap: free only if it were turned", UNSUPPORTED, RefusedTest::broken, h -> h.stopgap(0, 1));
        refused("stopgap: all is used", UNSUPPORTED, () -> {
            LeadlightHall hall = broken();
            hall.sheet(0, 2, 1, 'v');
            hall.stopgap(1, 2);
            return hall;
        }, h -> h.stopgap(0, 2));
    }

    private static void yearAndFits() {
        for (int piece : NO_PIECE) {
            refused("year: no such piece", INDEX, RefusedTest::painted, h -> h.year(piece));
            refused("fits: no such piece", INDEX, RefusedTest::painted, h -> h.fits(piece));
        }
        refused("year: no glass", NONE, RefusedTest::painted, h -> h.year(1));
        refused("year: no cells", NONE, RefusedTest::up, h -> h.year(29));
        refused("fits: no glass", NONE, RefusedTest::painted, h -> h.fits(1));
        refused("fits: no cells", NONE, RefusedTest::up, h -> h.fits(29));
    }

    // Promises 42 and 43.

    private static void shares() {
        refused("litShare: stone", NONE, LeadlightHall::new, LeadlightHall::litShare);
        refused("litShare: stone again", NONE, () -> {
            LeadlightHall hall = drawn();
            hall.open(0, 0, 11, 11, false);
            return hall;
        }, LeadlightHall::litShare);
        refused("meanCells: stone", NONE, LeadlightHall::new, LeadlightHall::meanCells);
        refused("meanCells: bare", NONE, () -> OpeningTest.wall("..."), LeadlightHall::meanCells);
        refused("meanCells: stone again", NONE, () -> {
            LeadlightHall hall = drawn();
            hall.open(0, 0, 11, 11, false);
            return hall;
        }, LeadlightHall::meanCells);
    }
}
