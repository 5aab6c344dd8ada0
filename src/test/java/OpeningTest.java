/** Promises 1 to 11: a new object, the opening and its pieces. */
public final class OpeningTest {
    private static final Class<IllegalArgumentException> ARGUMENT = IllegalArgumentException.class;
    private static final Class<IndexOutOfBoundsException> INDEX = IndexOutOfBoundsException.class;
    private static final Class<UnsupportedOperationException> UNSUPPORTED = UnsupportedOperationException.class;
    private static final Class<IllegalStateException> STATE = IllegalStateException.class;

    public static void main(String[] args) {
        newObject();
        open();
        openWithGlass();
        lay();
        layWithGlass();
        pieceAt();
        size();
        corners();
        point();
        hinders();
        split();
        splitRefused();
        lead();
        joints();
        Check.end();
    }

    /** Rows from above to below; a sign 0 to 9 is of that piece, '.' bare, anything else stone. */
    static LeadlightHall wall(String... rows) {
        LeadlightHall hall = new LeadlightHall();
        for (int row = 0; row < rows.length; row++) {
            int y = rows.length - 1 - row;
            for (int x = 0; x < rows[row].length(); x++) {
                char sign = rows[row].charAt(x);
                if (sign == '.' || sign >= '0' && sign <= '9') {
                    hall.open(x, y, x, y, true);
                }
                if (sign >= '0' && sign <= '9') {
                    hall.lay(sign - '0', x, y, x, y);
                }
            }
        }
        return hall;
    }

    /** Rows like those of wall(); nothing is due of a '?'. */
    static void looksLike(String call, LeadlightHall hall, String... rows) {
        for (int row = 0; row < rows.length; row++) {
            int y = rows.length - 1 - row;
            for (int x = 0; x < rows[row].length(); x++) {
                char sign = rows[row].charAt(x);
                if (sign == '?') {
                    continue;
                }
                int due = sign == '.' ? -1 : sign >= '0' && sign <= '9' ? sign - '0' : -2;
                Check.due(call + ": pieceAt(" + x + ", " + y + ")", hall.pieceAt(x, y), due);
            }
        }
    }

    private static void newObject() {
        LeadlightHall hall = new LeadlightHall();
        for (int y = 0; y < 12; y++) {
            for (int x = 0; x < 12; x++) {
                Check.due("new: pieceAt", hall.pieceAt(x, y), -2);
                Check.due("new: looks", hall.looks(x, y, 12), 0);
            }
        }
        for (int piece = 0; piece < 30; piece++) {
            Check.due("new: size", hall.size(piece), 0);
            Check.due("new: glass", hall.glass(piece), '-');
            Check.due("new: hinders", hall.hinders(piece), 'e');
            Check.due("new: want", hall.want(piece, 0, '-'), true);
        }
        Check.fails("new: free(0)", INDEX, () -> hall.free(0));
        Check.due("new: lead", hall.lead(), 0);
        Check.due("new: joints", hall.joints(), 0);
        Check.due("new: price", hall.price(), 0);
        Check.due("new: isUp", hall.isUp(), false);
        Check.due("new: bears", hall.bears(), 0);
        Check.due("new: stands", hall.stands(), true);
        Check.due("new: hands", hall.hands(), 0);
        Check.due("new: isSound", hall.isSound(), true);
        Check.due("new: profile", hall.profile(1), 1);
        Check.due("new: wind", hall.wind(0), 0);
        Check.due("new: seed", hall.seed(1), 1);
        for (int row = 1; row < 12; row++) {
            Check.due("new: bar", hall.bar(row, false), false);
        }
        Check.due("new: years", hall.years(1), 1);
    }

    private static void open() {
        LeadlightHall hall = new LeadlightHall();
        Check.due("open one cell", hall.open(0, 0, 0, 0, true), 1);
        Check.due("open over an open one", hall.open(0, 0, 2, 1, true), 5);
        Check.due("open again", hall.open(0, 0, 2, 1, true), 0);
        looksLike("open", hall, "####", "...#", "...#");
        hall.lay(3, 1, 0, 1, 1);
        Check.due("open a laid one", hall.open(0, 0, 2, 1, true), 0);
        looksLike("open keeps pieces", hall, ".3.#", ".3.#");
        Check.due("stone", hall.open(1, 1, 3, 3, false), 2);
        looksLike("stone is of no piece", hall, "####", ".###", ".3.#");
        Check.due("stone loses cells", hall.size(3), 1);
        Check.due("stone, opened again", hall.open(1, 1, 1, 1, true), 1);
        looksLike("opened again is bare", hall, "..##", ".3.#");
        Check.due("all", hall.open(0, 0, 11, 11, true), 139);
        Check.due("all to stone", hall.open(0, 0, 11, 11, false), 144);
        Check.due("stone to stone", hall.open(0, 0, 11, 11, false), 0);
        int[][] bad = {{-1, 0, 2, 2}, {0, -1, 2, 2}, {0, 0, 12, 2}, {0, 0, 2, 12}, {3, 0, 2, 2}, {0, 3, 2, 2},
            {12, 0, 12, 0}, {0, 12, 0, 12}, {-2, 0, -1, 0}, {0, -2, 0, -1},
            {Integer.MIN_VALUE, 0, Integer.MAX_VALUE, 0}, {0, Integer.MIN_VALUE, 0, Integer.MAX_VALUE}};
        for (int[] at : bad) {
            Check.fails("open wrong cells", ARGUMENT, () -> hall.open(at[0], at[1], at[2], at[3], true));
            Check.fails("stone wrong cells", ARGUMENT, () -> hall.open(at[0], at[1], at[2], at[3], false));
        }
        Check.due("wrong cells change nothing", hall.open(0, 0, 11, 11, false), 0);
    }

    private static void openWithGlass() {
        LeadlightHall hall = wall("01", "01");
        hall.sheet(0, 12, 12, 'h');
        hall.cut(0, 0, false);
        Check.fails("stone where glass is", UNSUPPORTED, () -> hall.open(0, 1, 1, 3, false));
        Check.fails("open where glass is", UNSUPPORTED, () -> hall.open(0, 0, 0, 0, true));
        Check.fails("wrong cells first", ARGUMENT, () -> hall.open(0, 0, 0, 12, true));
        Check.due("stone beside glass", hall.open(1, 1, 5, 5, false), 1);
        looksLike("glass stays", hall, "0#", "01");
        LeadlightHall up = LeadingTest.upWindow();
        Check.fails("open as it is up", UNSUPPORTED, () -> up.open(9, 9, 9, 9, true));
        Check.fails("stone as it is up", UNSUPPORTED, () -> up.open(9, 9, 9, 9, false));
        Check.fails("wrong cells first, as it is up", ARGUMENT, () -> up.open(9, 9, 8, 9, false));
    }

    private static void lay() {
        LeadlightHall hall = wall("..#.", "....");
        Check.due("lay", hall.lay(0, 0, 0, 1, 1), 4);
        Check.due("lay leaves stone", hall.lay(29, 1, 1, 5, 5), 2);
        looksLike("lay", hall, "0?#?", "00..");
        Check.due("lay: of 29", hall.pieceAt(1, 1), 29);
        Check.due("lay: of 29", hall.pieceAt(3, 1), 29);
        Check.due("lay takes from another", hall.size(0), 3);
        Check.due("lay again", hall.lay(0, 0, 0, 0, 0), 3);
        Check.due("lay all away", hall.lay(1, 0, 0, 11, 11), 7);
        Check.due("none is left", hall.size(0), 0);
        Check.due("none is left", hall.size(29), 0);
        Check.fails("lay onto stone", UNSUPPORTED, () -> hall.lay(0, 2, 1, 2, 5));
        Check.fails("lay: piece -1", INDEX, () -> hall.lay(-1, 0, 0, 0, 0));
        Check.fails("lay: piece 30", INDEX, () -> hall.lay(30, 0, 0, 12, 0));
        Check.fails("lay: piece", INDEX, () -> hall.lay(Integer.MIN_VALUE, 0, 0, 0, 0));
        int[][] bad = {{-1, 0, 2, 2}, {0, -1, 2, 2}, {0, 0, 12, 2}, {0, 0, 2, 12}, {3, 0, 2, 2}, {0, 3, 2, 2},
            {Integer.MIN_VALUE, 0, Integer.MAX_VALUE, 0}};
        for (int[] at : bad) {
            Check.fails("lay: wrong cells", ARGUMENT, () -> hall.lay(0, at[0], at[1], at[2], at[3]));
        }
        looksLike("wrong lays change nothing", hall, "11#1", "1111");
    }

    private static void layWithGlass() {
        LeadlightHall hall = wall("01.", "01.");
        hall.sheet(0, 12, 12, 'h');
        hall.cut(0, 0, false);
        Check.fails("lay a piece with glass", UNSUPPORTED, () -> hall.lay(0, 2, 0, 2, 0));
        Check.fails("lay a piece with glass onto itself", UNSUPPORTED, () -> hall.lay(0, 0, 0, 0, 0));
        Check.fails("lay over glass", UNSUPPORTED, () -> hall.lay(2, 0, 1, 2, 1));
        Check.fails("lay: wrong cells first", ARGUMENT, () -> hall.lay(0, 0, 0, 0, 12));
        Check.fails("lay: wrong piece first", INDEX, () -> hall.lay(30, 0, 0, 0, 0));
        Check.due("lay beside glass", hall.lay(2, 1, 1, 2, 1), 2);
        looksLike("lay beside glass", hall, "022", "01.");
        LeadlightHall up = LeadingTest.upWindow();
        Check.fails("lay as it is up", UNSUPPORTED, () -> up.lay(9, 0, 0, 11, 11));
        Check.fails("lay stone as it is up", UNSUPPORTED, () -> up.lay(9, 11, 11, 11, 11));
    }

    private static void pieceAt() {
        LeadlightHall hall = wall(".1", "0#");
        Check.due("pieceAt a piece", hall.pieceAt(0, 0), 0);
        Check.due("pieceAt stone", hall.pieceAt(1, 0), -2);
        Check.due("pieceAt bare", hall.pieceAt(0, 1), -1);
        Check.due("pieceAt a piece", hall.pieceAt(1, 1), 1);
        Check.due("pieceAt the last", hall.pieceAt(11, 11), -2);
        int[][] bad = {{-1, 0}, {0, -1}, {12, 0}, {0, 12}, {Integer.MAX_VALUE, 0}, {0, Integer.MIN_VALUE}};
        for (int[] at : bad) {
            Check.fails("pieceAt outside", ARGUMENT, () -> hall.pieceAt(at[0], at[1]));
        }
    }

    private static void size() {
        LeadlightHall hall = wall("0.1", "001");
        Check.due("size", hall.size(0), 3);
        Check.due("size", hall.size(1), 2);
        Check.due("size of none", hall.size(29), 0);
        Check.fails("size(-1)", INDEX, () -> hall.size(-1));
        Check.fails("size(30)", INDEX, () -> hall.size(30));
        hall.open(0, 0, 11, 11, true);
        Check.due("size of all", hall.lay(5, 0, 0, 11, 11), 144);
        Check.due("size of all", hall.size(5), 144);
    }

    private static void corners() {
        Check.due("corners of none", new LeadlightHall().corners(0), 0);
        Check.due("corners of a square", wall("00", "00").corners(0), 0);
        Check.due("corners of three", wall("0#", "00").corners(0), 1);
        Check.due("corners of three", wall("00", "#0").corners(0), 1);
        Check.due("corners of three", wall("01", "00").corners(0), 1);
        Check.due("corners of a diagonal", wall("0#", "#0").corners(0), 0);
        Check.due("corners of a T", wall("000", "#0#").corners(0), 2);
        Check.due("corners of a cross", wall("#0#", "000", "#0#").corners(0), 4);
        Check.due("corners of a ring", wall("000", "010", "000").corners(0), 4);
        Check.due("corners of its middle", wall("000", "010", "000").corners(1), 0);
        LeadlightHall hall = new LeadlightHall();
        hall.open(0, 0, 11, 11, true);
        hall.lay(0, 0, 0, 11, 11);
        hall.lay(1, 11, 11, 11, 11);
        Check.due("corners at the edge", hall.corners(0), 1);
        hall.lay(1, 0, 0, 0, 0);
        Check.due("corners at both edges", hall.corners(0), 2);
        Check.fails("corners(-1)", INDEX, () -> hall.corners(-1));
        Check.fails("corners(30)", INDEX, () -> hall.corners(30));
    }

    private static void point() {
        Check.due("point of none", new LeadlightHall().point(0), 0);
        Check.due("point of one cell", wall("0").point(0), 1);
        Check.due("point of a level row", wall("00000").point(0), 5);
        Check.due("point of an upright row", wall("0", "0", "0").point(0), 3);
        Check.due("point of a square", wall("00", "00").point(0), 0);
        Check.due("point beside others", wall("111", "000", "111").point(0), 3);
        Check.due("point of a part of a row", wall("00###", "00000").point(0), 3);
        Check.due("point of an L", wall("0##", "0##", "000").point(0), 2);
        Check.due("point between", wall("0###0", "00000").point(0), 3);
        Check.due("point of an upright part", wall("00", "0#", "0#", "0#", "00").point(0), 3);
        Check.due("point of two, the first", wall("0000#", "#####", "00###").point(0), 4);
        Check.due("point parted by a neighbour", wall("##0##", "00000").point(0), 2);
        Check.due("point of a diagonal", wall("0#", "#0").point(0), 1);
        Check.due("point of an open row", wall("...", "000").point(0), 3);
        LeadlightHall hall = new LeadlightHall();
        hall.open(0, 0, 11, 11, true);
        hall.lay(0, 0, 11, 11, 11);
        Check.due("point along the top", hall.point(0), 12);
        hall.lay(1, 11, 0, 11, 11);
        Check.due("point along the right", hall.point(1), 12);
        Check.due("point that is left", hall.point(0), 11);
        Check.fails("point(-1)", INDEX, () -> hall.point(-1));
        Check.fails("point(30)", INDEX, () -> hall.point(30));
    }

    private static void hinders() {
        Check.due("hinders of none", new LeadlightHall().hinders(0), 'e');
        Check.due("hinders nothing", wall("00", "00").hinders(0), '-');
        Check.due("hinders a diagonal", wall("0#", "#0").hinders(0), 'w');
        Check.due("hinders two parts", wall("0#0").hinders(0), 'w');
        Check.due("hinders two far parts with points", wall("00000#00000").hinders(0), 'w');
        Check.due("hinders two corners", wall("000", "#0#").hinders(0), '-');
        Check.due("hinders four corners", wall("#0#", "000", "#0#").hinders(0), 'c');
        Check.due("hinders three corners", wall("#00", "00#", "0##").hinders(0), 'c');
        Check.due("hinders corners before point", wall("#0####", "000000", "#0####").hinders(0), 'c');
        Check.due("hinders a point of 4", wall("0000").hinders(0), '-');
        Check.due("hinders a point of 5", wall("00000").hinders(0), 'p');
        Check.due("hinders an upright point", wall("0", "0", "0", "0", "0").hinders(0), 'p');
        Check.due("hinders nothing at a long way round",
                wall("000000", "000000", "00##00", "00##00").hinders(0), '-');
        Check.due("hinders a way round that is whole", wall("0#00", "0#0#", "0000").hinders(0), 'c');
        LeadlightHall top = new LeadlightHall();
        top.open(0, 10, 2, 11, true);
        top.lay(0, 0, 10, 2, 11);
        top.open(1, 10, 1, 10, false);
        Check.due("hinders a bow at the top", top.hinders(0), '-');
        LeadlightHall snake = new LeadlightHall();
        for (int row = 0; row < 12; row++) {
            snake.open(row % 4 == 1 ? 11 : 0, row, row % 4 == 3 ? 0 : 11, row, true);
        }
        snake.lay(0, 0, 0, 11, 11);
        Check.due("hinders a snake, which is whole", snake.hinders(0), 'c');
        snake.open(6, 6, 6, 6, false);
        Check.due("hinders a snake in two parts", snake.hinders(0), 'w');
        LeadlightHall hall = wall("0");
        Check.fails("hinders(-1)", INDEX, () -> hall.hinders(-1));
        Check.fails("hinders(30)", INDEX, () -> hall.hinders(30));
    }

    private static void split() {
        LeadlightHall square = wall("00", "00");
        Check.due("split a square", square.split(0), 1);
        looksLike("split upright first", square, "01", "01");
        LeadlightHall low = wall("000", "000");
        Check.due("split a low one", low.split(0), 1);
        looksLike("split at the lower column", low, "011", "011");
        LeadlightHall tall = wall("00", "00", "00", "00");
        Check.due("split a tall one", tall.split(0), 1);
        looksLike("split where it is least", tall, "11", "11", "11", "00");
        LeadlightHall bone = wall("00#00", "00000", "00#00");
        Check.due("split a bone", bone.split(0), 1);
        looksLike("split at its middle", bone, "00#11", "00111", "00#11");
        LeadlightHall row = wall("0000000000");
        Check.due("split a long row: none can be both above 4", row.hinders(0), 'p');
        Check.fails("split a long row", UNSUPPORTED, () -> row.split(0));
        LeadlightHall eight = wall("00000000");
        Check.due("split a row of 8", eight.split(0), 1);
        looksLike("split a row of 8", eight, "00001111");
        LeadlightHall parted = wall("00#00", "00#00");
        Check.due("split what is not whole", parted.split(0), 1);
        looksLike("split over the gap", parted, "00#11", "00#11");
        LeadlightHall gap = wall("00", "##", "##", "00");
        Check.due("split over a level gap", gap.split(0), 1);
        looksLike("split over a level gap, lowest", gap, "11", "##", "##", "00");
        LeadlightHall middle = wall("2011", "2011");
        middle.want(1, 7, 'v');
        middle.want(3, 2, 'h');
        middle.want(4, 7, 'v');
        Check.due("split to the lowest free number", middle.split(1), 3);
        Check.due("split wants the same", middle.want(3, 7, 'v'), true);
        Check.due("split wants the same", middle.want(1, 7, 'v'), true);
        LeadlightHall all = new LeadlightHall();
        all.open(0, 0, 11, 11, true);
        all.lay(0, 0, 0, 11, 11);
        Check.due("split all", all.split(0), 1);
        Check.due("split all behind the second column", all.size(0), 24);
        Check.due("split all behind the second column", all.pieceAt(1, 11), 0);
        LeadlightHall lower = wall("2222", "2222");
        Check.due("split to a number below", lower.split(2), 0);
        looksLike("split to a number below", lower, "2000", "2000");
    }

    private static void splitRefused() {
        LeadlightHall hall = wall("01", "01", "#1");
        Check.fails("split(-1)", INDEX, () -> hall.split(-1));
        Check.fails("split(30)", INDEX, () -> hall.split(30));
        Check.fails("split none", UNSUPPORTED, () -> hall.split(7));
        hall.sheet(0, 12, 12, 'h');
        hall.cut(0, 0, false);
        Check.fails("split glass", UNSUPPORTED, () -> hall.split(0));
        Check.due("split beside glass", hall.split(1), 2);
        Check.fails("split one cell", UNSUPPORTED, () -> hall.split(1));
        LeadlightHall full = new LeadlightHall();
        full.open(0, 0, 11, 11, true);
        for (int piece = 0; piece < 30; piece++) {
            full.lay(piece, piece % 6 * 2, piece / 6 * 2, piece % 6 * 2 + 1, piece / 6 * 2 + 1);
        }
        Check.fails("split with all numbers", STATE, () -> full.split(0));
        Check.due("refused splits change nothing", full.size(0), 4);
        full.lay(1, 0, 0, 0, 1);
        full.lay(1, 1, 0, 1, 0);
        Check.fails("split one cell with all numbers", UNSUPPORTED, () -> full.split(0));
        full.open(10, 8, 11, 9, false);
        Check.due("split to 29", full.split(2), 29);
        LeadlightHall up = LeadingTest.upWindow();
        Check.fails("split as it is up", UNSUPPORTED, () -> up.split(1));
        Check.fails("split none as it is up", UNSUPPORTED, () -> up.split(20));
    }

    private static void lead() {
        Check.due("lead of one cell", wall("0").lead(), 4);
        Check.due("lead of two cells", wall("00").lead(), 6);
        Check.due("lead between two counts once", wall("01").lead(), 7);
        Check.due("lead beside a bare cell", wall("0.").lead(), 4);
        Check.due("lead without pieces", wall("..", "..").lead(), 0);
        Check.due("lead of a ring", wall("000", "0#0", "000").lead(), 16);
        LeadlightHall hall = new LeadlightHall();
        hall.open(0, 0, 11, 11, true);
        hall.lay(0, 0, 0, 11, 11);
        Check.due("lead round all", hall.lead(), 48);
        hall.lay(1, 11, 11, 11, 11);
        Check.due("lead round the last", hall.lead(), 50);
    }

    private static void joints() {
        Check.due("joints of one", wall("00", "00").joints(), 0);
        Check.due("joints of two", wall("01").joints(), 2);
        Check.due("joints of four", wall("01", "23").joints(), 5);
        Check.due("joints of three", wall("01", "22").joints(), 4);
        Check.due("joints of a diagonal: four sides", wall("0#", "#0").joints(), 1);
        Check.due("joints of a diagonal pair", wall("0#", "#1").joints(), 1);
        Check.due("joints of apart ones", wall("0#1").joints(), 0);
        Check.due("joints of bare ones", wall("0.", "..").joints(), 0);
        LeadlightHall hall = new LeadlightHall();
        hall.open(0, 0, 11, 11, true);
        hall.lay(0, 0, 0, 11, 5);
        hall.lay(1, 0, 6, 11, 11);
        Check.due("joints at both edges", hall.joints(), 2);
        hall.lay(2, 11, 11, 11, 11);
        Check.due("joints at the last corner", hall.joints(), 4);
    }
}
