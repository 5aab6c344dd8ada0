import java.util.NoSuchElementException;

/** Promises 12 to 21: sheets, cutting, paint and firing. */
public final class GlassTest {
    private static final Class<IllegalArgumentException> ARGUMENT = IllegalArgumentException.class;
    private static final Class<IndexOutOfBoundsException> INDEX = IndexOutOfBoundsException.class;
    private static final Class<UnsupportedOperationException> UNSUPPORTED = UnsupportedOperationException.class;
    private static final Class<IllegalStateException> STATE = IllegalStateException.class;
    private static final Class<NoSuchElementException> NONE = NoSuchElementException.class;

    public static void main(String[] args) {
        sheet();
        free();
        want();
        cutMatches();
        cutPlaces();
        cutTurns();
        cutBreaks();
        cutRefused();
        glass();
        colour();
        paint();
        paintRefused();
        fire();
        fireRefused();
        layers();
        seed();
        Check.end();
    }

    /** One piece of two cells, cut, beside one without glass. */
    private static LeadlightHall cutOne() {
        LeadlightHall hall = OpeningTest.wall("01", "01");
        hall.sheet(0, 12, 12, 'h');
        hall.cut(0, 0, false);
        return hall;
    }

    private static void sheet() {
        LeadlightHall hall = new LeadlightHall();
        Check.due("sheet", hall.sheet(0, 1, 1, 'h'), 0);
        Check.due("sheet", hall.sheet(9, 12, 12, 'v'), 1);
        int[][] bad = {{-1, 1, 1}, {10, 1, 1}, {0, 0, 1}, {0, 13, 1}, {0, 1, 0}, {0, 1, 13}, {0, -5, 1},
            {Integer.MAX_VALUE, 1, 1}, {0, 1, Integer.MIN_VALUE}};
        for (int[] of : bad) {
            Check.fails("sheet out of range", ARGUMENT, () -> hall.sheet(of[0], of[1], of[2], 'h'));
        }
        for (char streaks : new char[] {'-', 'H', 'x', (char) 0, (char) 65535}) {
            Check.fails("sheet without such streaks", ARGUMENT, () -> hall.sheet(0, 1, 1, streaks));
        }
        for (int number = 2; number < 8; number++) {
            Check.due("sheet", hall.sheet(number, number, number, 'h'), number);
        }
        Check.fails("a ninth sheet", STATE, () -> hall.sheet(0, 1, 1, 'h'));
        Check.fails("a ninth sheet out of range", ARGUMENT, () -> hall.sheet(0, 1, 13, 'h'));
        Check.due("sheets keep theirs", hall.free(7), 49);
        LeadlightHall up = LeadingTest.upWindow();
        Check.due("sheet as it is up", up.sheet(0, 2, 2, 'h'), 1);
    }

    private static void free() {
        LeadlightHall hall = OpeningTest.wall("00", "0#");
        hall.sheet(0, 12, 12, 'h');
        hall.sheet(0, 3, 2, 'h');
        Check.due("free of all", hall.free(0), 144);
        Check.due("free of 3 by 2", hall.free(1), 6);
        hall.seed(5);
        hall.cut(1, 0, false);
        Check.due("free after a cut", hall.free(1), 3);
        Check.due("free of another", hall.free(0), 144);
        Check.fails("free(-1)", INDEX, () -> hall.free(-1));
        Check.fails("free(2)", INDEX, () -> hall.free(2));
        Check.fails("free(8)", INDEX, () -> hall.free(8));
    }

    private static void want() {
        LeadlightHall hall = cutOne();
        Check.due("want at first", hall.want(1, 0, '-'), true);
        Check.due("want another colour", hall.want(1, 9, '-'), false);
        Check.due("want other streaks", hall.want(1, 9, 'h'), false);
        Check.due("want the same", hall.want(1, 9, 'h'), true);
        Check.due("want any again", hall.want(1, 9, '-'), false);
        Check.due("want without cells", hall.want(29, 3, 'v'), false);
        Check.due("want without cells", hall.want(29, 3, 'v'), true);
        Check.fails("want(-1)", INDEX, () -> hall.want(-1, 0, '-'));
        Check.fails("want(30)", INDEX, () -> hall.want(30, 10, 'x'));
        Check.fails("want colour -1", ARGUMENT, () -> hall.want(1, -1, '-'));
        Check.fails("want colour 10", ARGUMENT, () -> hall.want(0, 10, '-'));
        Check.fails("want streaks", ARGUMENT, () -> hall.want(1, 0, 'x'));
        Check.fails("want with glass", UNSUPPORTED, () -> hall.want(0, 0, '-'));
        Check.due("refused wants change nothing", hall.want(1, 9, '-'), true);
        LeadlightHall up = LeadingTest.upWindow();
        Check.fails("want as it is up", UNSUPPORTED, () -> up.want(20, 0, '-'));
    }

    private static void cutMatches() {
        LeadlightHall hall = OpeningTest.wall("012345");
        int level = hall.sheet(0, 12, 12, 'h');
        int upright = hall.sheet(0, 12, 12, 'v');
        int red = hall.sheet(4, 12, 12, 'h');
        hall.want(0, 0, 'h');
        hall.want(1, 0, 'v');
        hall.want(2, 0, 'v');
        hall.want(3, 0, 'h');
        hall.want(4, 4, '-');
        Check.fails("cut h out of v", ARGUMENT, () -> hall.cut(upright, 0, false));
        Check.fails("cut h out of h, turned", ARGUMENT, () -> hall.cut(level, 0, true));
        Check.due("cut h out of h", hall.cut(level, 0, false), true);
        Check.fails("cut v out of h", ARGUMENT, () -> hall.cut(level, 1, false));
        Check.fails("cut v out of v, turned", ARGUMENT, () -> hall.cut(upright, 1, true));
        Check.due("cut v out of v", hall.cut(upright, 1, false), true);
        Check.due("cut v out of h, turned", hall.cut(level, 2, true), true);
        Check.due("cut h out of v, turned", hall.cut(upright, 3, true), true);
        Check.fails("cut another colour", ARGUMENT, () -> hall.cut(level, 4, false));
        Check.fails("cut another colour", ARGUMENT, () -> hall.cut(red, 5, false));
        Check.due("cut any", hall.cut(red, 4, true), true);
        Check.due("cut any", hall.cut(upright, 5, false), true);
        Check.due("cut any: free", hall.free(upright), 141);
    }

    private static void cutPlaces() {
        LeadlightHall hall = OpeningTest.wall("11#22#", "11#22#", "0##333", "######", "44#5##");
        hall.sheet(0, 4, 3, 'h');
        hall.cut(0, 0, false);
        Check.due("cut beside the first cell", hall.cut(0, 1, false), true);
        Check.due("free", hall.free(0), 7);
        Check.fails("cut where a square is nowhere free", UNSUPPORTED, () -> hall.cut(0, 2, false));
        Check.due("cut a row above it", hall.cut(0, 3, false), true);
        Check.fails("cut a row that is nowhere free", UNSUPPORTED, () -> hall.cut(0, 4, false));
        Check.due("cut it turned", hall.cut(0, 4, true), true);
        Check.due("cut lowest, then leftmost", hall.cut(0, 5, false), true);
        Check.due("free", hall.free(0), 1);
        LeadlightHall apart = OpeningTest.wall("00#", "#0#", "111");
        apart.seed(5);
        apart.sheet(0, 3, 3, 'h');
        Check.due("cut lowest first", apart.cut(0, 1, false), true);
        Check.due("cut above it", apart.cut(0, 0, false), true);
        Check.due("cut only its cells", apart.free(0), 3);
        LeadlightHall edge = OpeningTest.wall("0000", "0000", "0000");
        edge.sheet(0, 3, 4, 'h');
        Check.fails("cut what is too wide", UNSUPPORTED, () -> edge.cut(0, 0, false));
        Check.due("cut it turned", edge.cut(0, 0, true), true);
        Check.due("cut it whole", edge.free(0), 0);
        LeadlightHall all = new LeadlightHall();
        all.open(0, 0, 11, 11, true);
        all.lay(0, 0, 0, 11, 11);
        all.sheet(0, 12, 12, 'h');
        Check.due("cut all", all.cut(0, 0, true), true);
        Check.due("cut all: free", all.free(0), 0);
    }

    /** An L with one long arm fits a sheet that is full but for it in one way only. */
    private static void cutTurns() {
        Check.due("a quarter to the left", fitsHole(true, "##0", "000"), true);
        Check.due("not a quarter to the right", fitsHole(true, "000", "0##"), false);
        Check.due("not mirrored", fitsHole(true, "0##", "000"), false);
        Check.due("not turned", fitsHole(false, "00", "#0", "#0"), true);
        Check.due("not turned, otherwise", fitsHole(false, "0#", "0#", "00"), false);
    }

    /** Whether a shape can be cut out of a sheet of which only this is free: "00", "#0", "#0". */
    static boolean fitsHole(boolean isTurned, String... rows) {
        LeadlightHall hall = OpeningTest.wall(rows);
        hall.open(11, 0, 11, 1, true);
        hall.lay(1, 11, 0, 11, 1);
        hall.sheet(0, 2, 3, 'h');
        hall.cut(0, 1, false);
        try {
            hall.cut(0, 0, isTurned);
        } catch (UnsupportedOperationException e) {
            return false;
        }
        return hall.free(0) == 0;
    }

    private static void cutBreaks() {
        int breaks = 0;
        for (int corners = 0; corners <= 2; corners++) {
            for (int z = 1; z < 150; z++) {
                LeadlightHall hall = corners == 0 ? OpeningTest.wall("00", "00")
                        : corners == 1 ? OpeningTest.wall("0#", "00") : OpeningTest.wall("000", "#0#");
                hall.sheet(0, 12, 12, 'h');
                hall.seed(z);
                long then = z * 48271L % 2147483647L;
                boolean isCut = then % 100 >= 10 * corners;
                Check.due("cut with " + corners + " corners", hall.cut(0, 0, false), isCut);
                Check.due("z after a cut", hall.seed(1), (int) then);
                Check.due("glass after a cut", hall.glass(0), isCut ? 'c' : '-');
                Check.due("cells are used", hall.free(0), 144 - hall.size(0));
                breaks += isCut ? 0 : 1;
            }
        }
        Check.due("some broke", breaks > 10, true);
        LeadlightHall hall = OpeningTest.wall("0#", "00");
        hall.sheet(0, 4, 2, 'h');
        int z = 1;
        while (z * 48271L % 2147483647L % 100 >= 10) {
            z++;
        }
        hall.seed(z);
        Check.due("it broke", hall.cut(0, 0, false), false);
        hall.seed(z);
        Check.due("it broke again, elsewhere", hall.cut(0, 0, false), false);
        Check.due("both are used", hall.free(0), 2);
        Check.due("broken at cutting, it is sound", hall.isSound(), true);
        Check.due("z at its largest", hall.seed(2147483646), (int) (z * 48271L % 2147483647L));
        hall.sheet(0, 4, 2, 'h');
        hall.cut(1, 0, false);
        Check.due("z after its largest", hall.seed(1), 2147483647 - 48271);
    }

    private static void cutRefused() {
        LeadlightHall hall = OpeningTest.wall("0#1#22222", "0##1#####");
        hall.sheet(0, 1, 1, 'h');
        Check.fails("cut sheet -1", INDEX, () -> hall.cut(-1, 0, false));
        Check.fails("cut sheet 1", INDEX, () -> hall.cut(1, 0, false));
        Check.fails("cut piece -1", INDEX, () -> hall.cut(0, -1, false));
        Check.fails("cut piece 30", INDEX, () -> hall.cut(0, 30, false));
        Check.fails("cut none", ARGUMENT, () -> hall.cut(0, 9, false));
        Check.fails("cut what is not whole", ARGUMENT, () -> hall.cut(0, 1, false));
        Check.fails("cut with a point", ARGUMENT, () -> hall.cut(0, 2, false));
        Check.fails("cut what is too large", UNSUPPORTED, () -> hall.cut(0, 0, false));
        hall.want(0, 0, 'v');
        Check.fails("cut what wants other, and is too large", ARGUMENT, () -> hall.cut(0, 0, false));
        hall.want(0, 0, '-');
        Check.due("refused cuts leave z", hall.seed(1), 1);
        Check.due("refused cuts use nothing", hall.free(0), 1);
        hall.sheet(0, 2, 1, 'h');
        Check.due("cut turned", hall.cut(1, 0, true), true);
        Check.fails("cut what has glass", ARGUMENT, () -> hall.cut(1, 0, true));
        LeadlightHall up = LeadingTest.upWindow();
        Check.fails("cut as it is up", ARGUMENT, () -> up.cut(0, 0, false));
        Check.fails("cut none as it is up", ARGUMENT, () -> up.cut(0, 20, false));
    }

    private static void glass() {
        LeadlightHall hall = cutOne();
        Check.due("glass cut", hall.glass(0), 'c');
        Check.due("glass none", hall.glass(1), '-');
        hall.cut(0, 1, false);
        hall.comes();
        Check.due("glass leaded", hall.glass(0), 'l');
        Check.due("glass cut", hall.glass(1), 'c');
        hall.comes();
        hall.solder();
        hall.hit(0, 0);
        Check.due("glass broken", hall.glass(0), 'b');
        Check.due("glass leaded", hall.glass(1), 'l');
        hall.mend(0);
        Check.due("glass mended", hall.glass(0), 'l');
        hall.hit(0, 1);
        hall.stopgap(0, 0);
        Check.due("glass of a stopgap", hall.glass(0), 'l');
        Check.due("glass of none", hall.glass(29), '-');
        Check.fails("glass(-1)", INDEX, () -> hall.glass(-1));
        Check.fails("glass(30)", INDEX, () -> hall.glass(30));
    }

    private static void colour() {
        LeadlightHall hall = OpeningTest.wall("01");
        hall.sheet(7, 2, 2, 'h');
        hall.sheet(3, 2, 2, 'h');
        hall.want(0, 7, '-');
        Check.fails("colour without glass", NONE, () -> hall.colour(0));
        hall.cut(0, 0, false);
        hall.want(1, 3, '-');
        hall.cut(1, 1, false);
        Check.due("colour", hall.colour(0), 7);
        Check.due("colour", hall.colour(1), 3);
        hall.comes();
        hall.comes();
        hall.solder();
        hall.hit(0, 0);
        Check.due("colour of a broken one", hall.colour(0), 7);
        hall.stopgap(0, 1);
        Check.due("colour of a stopgap", hall.colour(0), 3);
        Check.fails("colour(-1)", INDEX, () -> hall.colour(-1));
        Check.fails("colour(30)", INDEX, () -> hall.colour(30));
        Check.fails("colour of none", NONE, () -> hall.colour(29));
    }

    private static void paint() {
        LeadlightHall hall = cutOne();
        Check.due("paint t", hall.paint(0, 't'), 1);
        Check.due("paint m", hall.paint(0, 'm'), 2);
        Check.due("paint s", hall.paint(0, 's'), 3);
        Check.due("paint e", hall.paint(0, 'e'), 4);
        Check.fails("paint s again", UNSUPPORTED, () -> hall.paint(0, 's'));
        Check.due("paint t again", hall.paint(0, 't'), 5);
        Check.fails("paint a sixth", STATE, () -> hall.paint(0, 'm'));
        Check.fails("paint stain onto stain with 5", UNSUPPORTED, () -> hall.paint(0, 's'));
        Check.fails("paint no such kind with 5", ARGUMENT, () -> hall.paint(0, 'x'));
        Check.due("painted", hall.layers(0, 'r'), 5);
        Check.due("stain fixed", hall.fire(1, 580), 1);
        Check.fails("paint s on fixed", UNSUPPORTED, () -> hall.paint(0, 's'));
        Check.due("enamel was lost", hall.layers(0, 'r') + hall.layers(0, 'f'), 4);
        Check.due("paint after a loss", hall.paint(0, 'e'), 5);
        hall.fire(1, 620);
        Check.due("stain was lost", hall.layers(0, 'r') + hall.layers(0, 'f'), 3);
        Check.due("paint s after a loss", hall.paint(0, 's'), 4);
        Check.due("paint e", hall.paint(0, 'e'), 5);
        Check.due("matt is fixed", hall.layers(0, 'f'), 1);
        Check.fails("paint a sixth onto a fixed one", STATE, () -> hall.paint(0, 'e'));
    }

    private static void paintRefused() {
        LeadlightHall hall = cutOne();
        Check.fails("paint(-1)", INDEX, () -> hall.paint(-1, 't'));
        Check.fails("paint(30)", INDEX, () -> hall.paint(30, 'x'));
        for (char kind : new char[] {'x', 'T', '-', 'r', 'f', (char) 0, (char) 65535}) {
            Check.fails("paint no such kind", ARGUMENT, () -> hall.paint(0, kind));
        }
        Check.fails("paint no such kind without glass", ARGUMENT, () -> hall.paint(1, 'x'));
        Check.fails("paint without glass", UNSUPPORTED, () -> hall.paint(1, 't'));
        hall.comes();
        Check.fails("paint what is leaded", UNSUPPORTED, () -> hall.paint(0, 't'));
        Check.due("refused paint is not there", hall.layers(0, 'r'), 0);
        LeadlightHall up = LeadingTest.upWindow();
        Check.fails("paint as it is up", UNSUPPORTED, () -> up.paint(0, 't'));
        up.hit(0, 0);
        Check.fails("paint a broken one", UNSUPPORTED, () -> up.paint(0, 't'));
    }

    private static void fire() {
        int[] heats = {660, 620, 580, 540};
        char[] kinds = {'t', 'm', 's', 'e'};
        for (int kind = 0; kind < 4; kind++) {
            for (int degrees = 500; degrees <= 700; degrees++) {
                LeadlightHall hall = cutOne();
                hall.paint(0, kinds[kind]);
                boolean isFixed = Math.abs(degrees - heats[kind]) <= 15;
                boolean isLost = degrees - heats[kind] > 15;
                Check.due("fire at " + degrees, hall.fire(1, degrees), isFixed ? 1 : 0);
                Check.due("fixed at " + degrees, hall.layers(0, 'f'), isFixed ? 1 : 0);
                Check.due("raw at " + degrees, hall.layers(0, 'r'), isFixed || isLost ? 0 : 1);
            }
        }
        LeadlightHall hall = cutOne();
        hall.cut(0, 1, false);
        hall.paint(0, 'm');
        hall.paint(0, 'm');
        hall.paint(1, 'm');
        hall.paint(1, 'e');
        Check.due("fire one only", hall.fire(1, 635), 2);
        Check.due("the other stays", hall.layers(1, 'r'), 2);
        Check.due("fire both", hall.fire(3, 605), 1);
        Check.due("fixed stays fixed", hall.layers(0, 'f'), 2);
        Check.due("enamel burnt out", hall.layers(1, 'r'), 0);
        Check.due("fire lower", hall.fire(3, 500), 0);
        Check.due("fixed stays as it is", hall.layers(0, 'f'), 2);
        hall.paint(0, 't');
        Check.due("fire higher", hall.fire(1, 645), 1);
        Check.due("fixed burns out", hall.layers(0, 'f'), 1);
        Check.due("fire the clean", hall.fire(2, 700), 0);
    }

    private static void fireRefused() {
        LeadlightHall hall = OpeningTest.wall("01234567");
        hall.sheet(0, 12, 12, 'h');
        for (int piece = 0; piece < 7; piece++) {
            hall.cut(0, piece, false);
            hall.paint(piece, 't');
        }
        Check.fails("fire none", ARGUMENT, () -> hall.fire(0, 660));
        Check.fails("fire seven", ARGUMENT, () -> hall.fire(127, 660));
        Check.fails("fire bit 30", ARGUMENT, () -> hall.fire(1 | 1 << 30, 660));
        Check.fails("fire bit 31", ARGUMENT, () -> hall.fire(1 | 1 << 31, 660));
        Check.fails("fire all bits", ARGUMENT, () -> hall.fire(-1, 660));
        Check.fails("fire at 499", ARGUMENT, () -> hall.fire(1, 499));
        Check.fails("fire at 701", ARGUMENT, () -> hall.fire(1, 701));
        Check.fails("fire without glass", UNSUPPORTED, () -> hall.fire(128, 660));
        Check.fails("fire one without glass", UNSUPPORTED, () -> hall.fire(129, 660));
        Check.fails("fire without glass at 701", ARGUMENT, () -> hall.fire(128, 701));
        Check.fails("fire piece 29", UNSUPPORTED, () -> hall.fire(1 << 29, 660));
        Check.due("refused firings fix nothing", hall.layers(0, 'f'), 0);
        Check.due("fire six", hall.fire(63, 660), 6);
        hall.comes();
        Check.fails("fire what is leaded", UNSUPPORTED, () -> hall.fire(65, 660));
        Check.due("refused firings fix nothing", hall.layers(6, 'f'), 0);
        Check.due("fire at 500", hall.fire(2, 500), 0);
        Check.due("fire at 700", hall.fire(2, 700), 0);
        Check.due("burnt out", hall.layers(1, 'f'), 0);
        LeadlightHall up = LeadingTest.upWindow();
        Check.fails("fire as it is up", UNSUPPORTED, () -> up.fire(1, 600));
        up.hit(0, 0);
        Check.fails("fire a broken one", UNSUPPORTED, () -> up.fire(1, 600));
    }

    private static void layers() {
        LeadlightHall hall = cutOne();
        hall.paint(0, 't');
        hall.paint(0, 'e');
        hall.paint(0, 'e');
        Check.due("layers raw", hall.layers(0, 'r'), 3);
        Check.due("layers fixed", hall.layers(0, 'f'), 0);
        hall.fire(1, 540);
        Check.due("layers raw", hall.layers(0, 'r'), 1);
        Check.due("layers fixed", hall.layers(0, 'f'), 2);
        Check.due("layers without glass", hall.layers(1, 'r'), 0);
        Check.due("layers of none", hall.layers(29, 'f'), 0);
        Check.fails("layers(-1)", INDEX, () -> hall.layers(-1, 'r'));
        Check.fails("layers(30)", INDEX, () -> hall.layers(30, 'x'));
        for (char how : new char[] {'t', 'R', '-', 'l', (char) 0}) {
            Check.fails("layers of no such letter", ARGUMENT, () -> hall.layers(0, how));
        }
        LeadlightHall up = LeadingTest.upWindow();
        Check.due("layers as it is up", up.layers(0, 'f'), 1);
        up.hit(0, 0);
        Check.due("layers of a broken one", up.layers(0, 'f'), 1);
        up.mend(0);
        Check.due("layers of a mended one", up.layers(0, 'f'), 1);
        up.hit(0, 0);
        up.stopgap(0, 0);
        Check.due("layers of a stopgap", up.layers(0, 'f'), 0);
    }

    private static void seed() {
        LeadlightHall hall = new LeadlightHall();
        Check.due("seed at first", hall.seed(2147483646), 1);
        Check.due("seed", hall.seed(1), 2147483646);
        Check.due("seed", hall.seed(77), 1);
        Check.fails("seed(0)", ARGUMENT, () -> hall.seed(0));
        Check.fails("seed(-1)", ARGUMENT, () -> hall.seed(-1));
        Check.fails("seed(2147483647)", ARGUMENT, () -> hall.seed(2147483647));
        Check.fails("seed(least)", ARGUMENT, () -> hall.seed(Integer.MIN_VALUE));
        Check.due("refused seeds change nothing", hall.seed(5), 77);
        LeadlightHall up = LeadingTest.upWindow();
        up.seed(9);
        Check.due("seed as it is up", up.seed(5), 9);
    }
}
