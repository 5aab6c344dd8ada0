import java.util.NoSuchElementException;

/**
 * The document's terms, sentence by sentence: each limit on both of its sides, what is empty, what is full, and what
 * goes round its end. What is refused, and that it changes nothing, RefusedTest tells.
 */
public final class TermsTest {
    private static final Class<NoSuchElementException> NONE = NoSuchElementException.class;

    public static void main(String[] args) {
        allCells();
        allNumbers();
        oneWithoutCells();
        whole();
        innerCorners();
        narrowRows();
        hindersFirst();
        splitParts();
        splitLeast();
        splitLowest();
        leadAndJoints();
        sheetsLargest();
        wishes();
        turning();
        lowestThenLeftmost();
        breaking();
        zGoesRound();
        layersFive();
        heats();
        firings();
        canCome();
        orderly();
        soldered();
        fields();
        bowing();
        lightOfHours();
        lightOfColours();
        lightBeside();
        mending();
        unlikeYears();
        fitting();
        prices();
        sums();
        Check.end();
    }

    private static LeadlightHall withSheet(String... rows) {
        LeadlightHall hall = OpeningTest.wall(rows);
        hall.sheet(0, 12, 12, 'h');
        return hall;
    }

    // "There are 12 by 12 cells, x 0 to 11 from the left, y 0 to 11 from below, stone at first."
    private static void allCells() {
        LeadlightHall hall = new LeadlightHall();
        Check.due("stone at first", hall.open(0, 0, 11, 11, false), 0);
        Check.due("open the first cell", hall.open(0, 0, 0, 0, true), 1);
        Check.due("open the last cell", hall.open(11, 11, 11, 11, true), 1);
        Check.due("open all others", hall.open(0, 0, 11, 11, true), 142);
        Check.due("open none that is not so", hall.open(0, 0, 11, 11, true), 0);
        Check.due("open is bare", hall.pieceAt(11, 0), -1);
        Check.due("lay the leftmost column", hall.lay(0, 0, 0, 0, 11), 12);
        Check.due("lay the highest row", hall.lay(1, 0, 11, 11, 11), 12);
        Check.due("lay took one", hall.size(0), 11);
        Check.due("from below", hall.pieceAt(0, 10), 0);
        Check.due("from below", hall.pieceAt(0, 11), 1);
        Check.due("from the left", hall.pieceAt(1, 0), -1);
        Check.due("all to stone", hall.open(0, 0, 11, 11, false), 144);
        Check.due("stone is of no piece", hall.size(0) + hall.size(1), 0);
        Check.due("stone is of no piece", hall.pieceAt(0, 0), -2);
    }

    // "Pieces are numbered 0 to 29, each having the cells that were laid to it and not to another one since"
    private static void allNumbers() {
        LeadlightHall hall = new LeadlightHall();
        hall.open(0, 0, 11, 11, true);
        for (int piece = 0; piece < 30; piece++) {
            Check.due("lay " + piece, hall.lay(piece, 0, 0, 11, 11), 144);
            Check.due("its cells", hall.size(piece), 144);
            Check.due("no cell is left to another", piece == 0 || hall.size(piece - 1) == 0, true);
        }
        Check.due("the last number", hall.pieceAt(5, 5), 29);
        Check.due("one cell is laid", hall.lay(0, 5, 5, 5, 5), 1);
        Check.due("and lost", hall.size(29), 143);
        Check.due("and laid back", hall.lay(29, 5, 5, 5, 5), 144);
    }

    // "one without cells is none"
    private static void oneWithoutCells() {
        LeadlightHall hall = OpeningTest.wall("00", "00");
        hall.lay(1, 0, 0, 1, 1);
        Check.due("none has no cells", hall.size(0), 0);
        Check.due("none has no corners", hall.corners(0), 0);
        Check.due("none has no point", hall.point(0), 0);
        Check.due("none is hindered", hall.hinders(0), 'e');
        Check.due("none has no lead", hall.lead(), 8);
        Check.due("none costs nothing", hall.price(), 24);
        Check.due("none is not counted", hall.meanCells(), 4.0);
        Check.due("none is in nobody's way", hall.isOrderly(), true);
        Check.due("none can be split into", hall.split(1), 0);
        Check.fails("none has no glass", NONE, () -> hall.colour(29));
        LeadlightHall one = withSheet("1");
        one.cut(0, 1, false);
        Check.due("none needs no glass", one.comes(), 1);
        Check.due("none needs no lead", one.solder(), 0);
    }

    // "A piece is whole if one can go between any two of its cells over sides of its cells."
    private static void whole() {
        Check.due("one cell is whole", OpeningTest.wall("0").hinders(0), '-');
        Check.due("over a corner is not whole", OpeningTest.wall("#0", "0#").hinders(0), 'w');
        Check.due("over bare cells is not whole", OpeningTest.wall("0.0").hinders(0), 'w');
        Check.due("over another piece is not whole", OpeningTest.wall("0", "1", "0").hinders(0), 'w');
        Check.due("round a corner is whole", OpeningTest.wall("00", "#0").hinders(0), '-');
        LeadlightHall ends = new LeadlightHall();
        ends.open(0, 0, 11, 11, true);
        ends.lay(0, 0, 0, 0, 0);
        ends.lay(0, 11, 0, 11, 0);
        Check.due("the wall's sides do not meet", ends.hinders(0), 'w');
        ends.lay(1, 5, 0, 5, 0);
        ends.lay(1, 5, 11, 5, 11);
        Check.due("its low and its high end do not meet", ends.hinders(1), 'w');
        ends.lay(2, 11, 3, 11, 3);
        ends.lay(2, 0, 4, 0, 4);
        Check.due("the end of a row and the next one's start do not meet", ends.hinders(2), 'w');
        ends.lay(3, 0, 6, 11, 7);
        Check.due("a band over the whole wall is whole", ends.hinders(3), '-');
    }

    // "An inner corner is a point of the grid at which just three of the four cells around are its own."
    private static void innerCorners() {
        Check.due("one of four", OpeningTest.wall("0").corners(0), 0);
        Check.due("two of four, beside", OpeningTest.wall("00").corners(0), 0);
        Check.due("two of four, across", OpeningTest.wall("0#", "#0").corners(0), 0);
        Check.due("four of four", OpeningTest.wall("00", "00").corners(0), 0);
        String[][] three = {{"00", "0#"}, {"00", "#0"}, {"0#", "00"}, {"#0", "00"}, {"00", "0."}, {"00", "01"}};
        for (String[] rows : three) {
            Check.due("three of four", OpeningTest.wall(rows).corners(0), 1);
        }
        LeadlightHall hall = new LeadlightHall();
        hall.open(0, 0, 11, 11, true);
        hall.lay(0, 0, 0, 11, 11);
        Check.due("none at the wall's edge", hall.corners(0), 0);
        int[][] ends = {{0, 0}, {11, 0}, {0, 11}, {11, 11}};
        for (int end = 0; end < 4; end++) {
            hall.open(ends[end][0], ends[end][1], ends[end][0], ends[end][1], false);
            Check.due("one at each end of the wall", hall.corners(0), end + 1);
        }
    }

    // "A row .. is narrow if none of them has a cell of the piece at either side across the row; its point is the
    // length of its longest narrow row, which may be a part of a longer row of its cells, 0 without."
    private static void narrowRows() {
        Check.due("no cells, no narrow row", new LeadlightHall().point(0), 0);
        Check.due("no narrow row", OpeningTest.wall("00", "00").point(0), 0);
        for (int length = 1; length <= 12; length++) {
            LeadlightHall level = new LeadlightHall();
            level.open(0, 0, 11, 11, true);
            level.lay(0, 0, 11, length - 1, 11);
            Check.due("level, along the wall's top", level.point(0), length);
            level.lay(1, 11, 0, 11, length - 1);
            Check.due("upright, along the wall's right", level.point(1), length);
            Check.due("a point of 4 hinders not, of 5 it does", level.hinders(1), length > 4 ? 'p' : '-');
        }
        Check.due("one beside, on one side", OpeningTest.wall("0####", "00000").point(0), 4);
        Check.due("one beside, on the other side", OpeningTest.wall("00000", "####0").point(0), 4);
        Check.due("one beside, on both sides", OpeningTest.wall("##0##", "00000", "##0##").point(0), 2);
        Check.due("others beside do not widen", OpeningTest.wall("1...1", "00000", "1...1").point(0), 5);
        Check.due("the longer of two", OpeningTest.wall("000#", "###0", "###0").point(0), 3);
        Check.due("the longer of two", OpeningTest.wall("00##", "###0", "###0", "###0").point(0), 3);
        Check.due("a part at the end", OpeningTest.wall("00#####", "0000000").point(0), 5);
        Check.due("a part in the middle", OpeningTest.wall("0######0", "00000000").point(0), 6);
    }

    // "What hinders its cutting is the first of these"
    private static void hindersFirst() {
        Check.due("nothing", OpeningTest.wall("00#00", "00000").hinders(0), '-');
        Check.due("'w' before 'c'", OpeningTest.wall("#0#0", "000#", "#0##").hinders(0), 'w');
        Check.due("'w' before 'p'", OpeningTest.wall("0", "#", "0", "0", "0", "0", "0").hinders(0), 'w');
        Check.due("'c' before 'p'", OpeningTest.wall("#0######", "00000000", "#0######").hinders(0), 'c');
        Check.due("2 corners", OpeningTest.wall("0##0", "0000").hinders(0), '-');
        Check.due("3 corners", OpeningTest.wall("0##0#", "00000", "####0").hinders(0), 'c');
        Check.due("2 corners, a point of 4", OpeningTest.wall("0####0", "000000").hinders(0), '-');
        Check.due("2 corners, a point of 5", OpeningTest.wall("0#####0", "0000000").hinders(0), 'p');
    }

    // "It can be if nothing hinders the cutting of both."
    private static void splitParts() {
        LeadlightHall two = OpeningTest.wall("00");
        Check.due("the least that can be split", two.split(0), 1);
        OpeningTest.looksLike("the least that can be split", two, "01");
        LeadlightHall upright = OpeningTest.wall("0", "0");
        upright.split(0);
        OpeningTest.looksLike("above becomes the other", upright, "1", "0");
        LeadlightHall five = OpeningTest.wall("00000");
        five.split(0);
        OpeningTest.looksLike("points of 1 and 4", five, "01111");
        LeadlightHall eight = OpeningTest.wall("0", "0", "0", "0", "0", "0", "0", "0");
        eight.split(0);
        OpeningTest.looksLike("points of 4 and 4", eight, "1", "1", "1", "1", "0", "0", "0", "0");
        LeadlightHall apart = OpeningTest.wall("0##0");
        apart.split(0);
        OpeningTest.looksLike("what is not whole can be", apart, "0##1");
        LeadlightHall corners = OpeningTest.wall("0#0#0", "00000");
        Check.due("too many corners", corners.hinders(0), 'c');
        Check.due("corners of 1 and 2, not of 0 and 3", corners.split(0), 1);
        OpeningTest.looksLike("corners of 1 and 2, not of 0 and 3", corners, "0#1#1", "00111");
    }

    // "The best one has the least lead, which is how many cells of the piece touch each other over it; of like ones
    // upright first, then the lower number of the column or row behind it."
    private static void splitLeast() {
        LeadlightHall level = OpeningTest.wall("000", "000", "#0#", "000", "000");
        Check.due("4 corners", level.corners(0), 4);
        level.split(0);
        OpeningTest.looksLike("a level one of 1 before upright ones of 5", level, "111", "111", "#1#", "000", "000");
        LeadlightHall square = OpeningTest.wall("000", "000", "000");
        square.split(0);
        OpeningTest.looksLike("upright first, the lower column", square, "011", "011", "011");
        LeadlightHall flat = OpeningTest.wall("0000", "0000", "0000", "0000", "0000");
        flat.split(0);
        OpeningTest.looksLike("the least is level, the lower row", flat, "1111", "1111", "1111", "1111", "0000");
        LeadlightHall last = OpeningTest.wall("0000", "0000", "###0");
        last.split(0);
        OpeningTest.looksLike("the least is level", last, "1111", "1111", "###0");
        LeadlightHall edge = new LeadlightHall();
        edge.open(10, 0, 11, 2, true);
        edge.lay(0, 10, 0, 11, 2);
        edge.open(10, 0, 10, 1, false);
        edge.split(0);
        Check.due("upright, behind the last column", edge.pieceAt(10, 2), 0);
        Check.due("upright, behind the last column", edge.size(1), 3);
        LeadlightHall top = new LeadlightHall();
        top.open(0, 10, 1, 11, true);
        top.lay(0, 0, 10, 0, 11);
        top.split(0);
        Check.due("level, behind the last row", top.pieceAt(0, 11), 1);
        Check.due("level, behind the last row", top.pieceAt(0, 10), 0);
        LeadlightHall none = OpeningTest.wall("00##", "##00");
        none.split(0);
        OpeningTest.looksLike("a lead of 0", none, "00##", "##11");
    }

    // "The cells to the right or above become the lowest number that has no cells, which then wants what the piece
    // wants."
    private static void splitLowest() {
        LeadlightHall hall = OpeningTest.wall("0022", "0022");
        hall.want(0, 4, 'v');
        hall.want(1, 6, 'h');
        hall.want(3, 6, 'h');
        Check.due("the lowest without cells", hall.split(0), 1);
        Check.due("it wants the same", hall.want(1, 4, 'v'), true);
        Check.due("the piece wants the same", hall.want(0, 4, 'v'), true);
        Check.due("others want what they want", hall.want(3, 6, 'h'), true);
        Check.due("the lowest without cells", hall.split(2), 3);
        Check.due("it wants the same", hall.want(3, 0, '-'), true);
        LeadlightHall last = new LeadlightHall();
        last.open(0, 0, 11, 11, true);
        for (int piece = 1; piece < 30; piece++) {
            last.lay(piece, piece % 6 * 2, piece / 6 * 2, piece % 6 * 2 + 1, piece / 6 * 2 + 1);
        }
        Check.due("0, if all others have cells", last.split(29), 0);
        last.lay(28, 10, 8, 10, 9);
        Check.due("29, if all others have cells", last.split(1), 29);
    }

    // "Lead is on each side of a cell of a piece behind which there is no cell of the same piece. A joint is a point
    // of the grid at which three or four such sides meet."
    private static void leadAndJoints() {
        LeadlightHall hall = new LeadlightHall();
        Check.due("no lead without pieces", hall.lead(), 0);
        Check.due("no joints without pieces", hall.joints(), 0);
        hall.open(0, 0, 11, 11, true);
        Check.due("no lead round bare cells", hall.lead(), 0);
        int[][] ends = {{0, 0}, {11, 0}, {0, 11}, {11, 11}};
        for (int end = 0; end < 4; end++) {
            hall.lay(end, ends[end][0], ends[end][1], ends[end][0], ends[end][1]);
            Check.due("lead at the wall's ends", hall.lead(), 4 * end + 4);
            Check.due("two sides are no joint", hall.joints(), 0);
        }
        LeadlightHall all = new LeadlightHall();
        all.open(0, 0, 11, 11, true);
        for (int cell = 0; cell < 144; cell++) {
            int piece = cell % 12 / 2 + cell / 24 * 6;
            all.lay(Math.min(29, piece), cell % 12, cell / 12, cell % 12, cell / 12);
        }
        Check.due("lead of 29 squares and what is left", all.lead(), 48 + 5 * 10 + 4 * 12 + 10);
        Check.due("joints of 29 squares and what is left", all.joints(), 5 * 4 + 4 + 5 + 5 + 4);
        Check.due("three sides are a joint", OpeningTest.wall("01").joints(), 2);
        Check.due("four sides are a joint", OpeningTest.wall("01", "10").joints(), 5);
        Check.due("four sides of two cells over a corner", OpeningTest.wall("0.", ".0").joints(), 1);
        Check.due("two sides in a line are none", OpeningTest.wall("00", "11").joints(), 2);
    }

    // "At most 8 are numbered from 0, each of a colour, 0 to 9, a width and a height, 1 to 12, with streaks level 'h'
    // or upright 'v'."
    private static void sheetsLargest() {
        LeadlightHall hall = new LeadlightHall();
        int[][] of = {{0, 1, 1}, {9, 12, 12}, {0, 12, 1}, {9, 1, 12}, {5, 6, 7}, {1, 11, 11}, {8, 2, 12}, {9, 12, 2}};
        for (int sheet = 0; sheet < 8; sheet++) {
            char streaks = sheet % 2 == 0 ? 'h' : 'v';
            Check.due("sheet " + sheet, hall.sheet(of[sheet][0], of[sheet][1], of[sheet][2], streaks), sheet);
            Check.due("all of it is free", hall.free(sheet), of[sheet][1] * of[sheet][2]);
        }
        hall.open(0, 0, 11, 11, true);
        hall.lay(0, 0, 0, 11, 11);
        hall.want(0, 9, 'v');
        Check.due("the largest piece out of the largest sheet", hall.cut(1, 0, false), true);
        Check.due("nothing of it is free", hall.free(1), 0);
        LeadlightHall least = OpeningTest.wall("0");
        least.sheet(0, 1, 1, 'h');
        Check.due("the smallest piece out of the smallest sheet", least.cut(0, 0, false), true);
        Check.due("nothing of it is free", least.free(0), 0);
        LeadlightHall up = LeadingTest.upWindow();
        for (int sheet = 1; sheet < 8; sheet++) {
            Check.due("sheets can be added as it is up", up.sheet(0, 1, 1, 'v'), sheet);
        }
    }

    // "A piece wants a colour, 0 at first, and streaks, '-' any at first."
    private static void wishes() {
        LeadlightHall hall = OpeningTest.wall("0");
        for (int piece = 0; piece < 30; piece++) {
            Check.due("0 and any at first", hall.want(piece, 0, '-'), true);
            Check.due("the same again", hall.want(piece, 0, '-'), true);
            Check.due("another colour", hall.want(piece, 9, '-'), false);
            Check.due("other streaks", hall.want(piece, 9, 'v'), false);
            Check.due("other streaks", hall.want(piece, 9, 'h'), false);
            Check.due("the same", hall.want(piece, 9, 'h'), true);
            Check.due("both other", hall.want(piece, 0, '-'), false);
        }
        for (char streaks : new char[] {'h', 'v'}) {
            for (boolean isTurned : new boolean[] {true, false}) {
                LeadlightHall any = OpeningTest.wall("0");
                any.sheet(0, 1, 1, streaks);
                Check.due("any streaks", any.cut(0, 0, isTurned), true);
            }
        }
    }

    // "turned by a quarter to the left or not, never mirrored"
    private static void turning() {
        LeadlightHall wide = OpeningTest.wall("000", "000");
        wide.sheet(0, 2, 3, 'h');
        wide.want(0, 0, 'v');
        Check.due("turned, it is as high as it was wide", wide.cut(0, 0, true), true);
        Check.due("turned, it uses all", wide.free(0), 0);
        String[][] ways = {{"00", "#0", "#0"}, {"##0", "000"}, {"0#", "0#", "00"}, {"000", "0##"},
            {"00", "0#", "0#"}, {"000", "##0"}, {"#0", "#0", "00"}, {"0##", "000"}};
        for (int way = 0; way < 8; way++) {
            Check.due("not turned, way " + way, GlassTest.fitsHole(false, ways[way]), way == 0);
            Check.due("turned, way " + way, GlassTest.fitsHole(true, ways[way]), way == 1);
        }
    }

    // "where all of its cells are free, lowest first, then leftmost"
    private static void lowestThenLeftmost() {
        LeadlightHall hall = OpeningTest.wall("1#2", "##2", "000");
        hall.sheet(0, 3, 3, 'h');
        hall.cut(0, 1, false);
        Check.due("upright beside the first cell", hall.cut(0, 2, false), true);
        Check.due("level, not beside them but above", hall.cut(0, 0, false), true);
        Check.due("as free as it is told", hall.free(0), 3);
        LeadlightHall low = OpeningTest.wall("1#22", "####", "000#");
        low.sheet(0, 3, 2, 'h');
        low.cut(0, 1, false);
        low.cut(0, 2, false);
        Check.due("lowest first, so the row above is free", low.cut(0, 0, false), true);
        LeadlightHall left = OpeningTest.wall("1#000", "###00");
        left.sheet(0, 3, 2, 'h');
        left.cut(0, 1, false);
        left.seed(5);
        Check.due("leftmost, so all but the first is free", left.cut(0, 0, false), true);
        Check.due("all is used", left.free(0), 0);
        LeadlightHall two = OpeningTest.wall("11", "22");
        two.sheet(0, 4, 1, 'v');
        two.cut(0, 1, false);
        Check.due("leftmost, so two beside each other are free", two.cut(0, 2, false), true);
        LeadlightHall into = OpeningTest.wall("00##1", "0##11");
        into.sheet(0, 3, 2, 'h');
        into.seed(5);
        Check.due("an L", into.cut(0, 0, false), true);
        into.seed(5);
        Check.due("another, into its corner", into.cut(0, 1, false), true);
        Check.due("both use all", into.free(0), 0);
        LeadlightHall all = OpeningTest.wall("111111111111");
        all.lay(1, 0, 0, 3, 0);
        all.lay(2, 4, 0, 7, 0);
        all.lay(3, 8, 0, 11, 0);
        all.sheet(0, 12, 1, 'h');
        for (int piece = 1; piece <= 3; piece++) {
            Check.due("up to the right end", all.cut(0, piece, false), true);
        }
        Check.due("up to the right end", all.free(0), 0);
        LeadlightHall up = OpeningTest.wall("123");
        up.sheet(0, 1, 3, 'h');
        for (int piece = 1; piece <= 3; piece++) {
            Check.due("up to the high end", up.cut(0, piece, piece == 2), true);
        }
        Check.due("up to the high end", up.free(0), 0);
    }

    private static int seedFor(int ofHundred) {
        int z = 1;
        while (z * 48271L % 2147483647L % 100 != ofHundred) {
            z++;
        }
        return z;
    }

    // "the glass breaks, and the piece has none, if z modulo 100 is less than 10 times its inner corners"
    private static void breaking() {
        String[][] cornered = {{"00", "00"}, {"0#", "00"}, {"0##0", "0000"}};
        for (int corners = 0; corners <= 2; corners++) {
            for (int ofHundred : new int[] {0, 1, 9, 10, 11, 19, 20, 21, 50, 99}) {
                boolean isCut = ofHundred >= 10 * corners;
                for (boolean isTurned : new boolean[] {true, false}) {
                    LeadlightHall hall = withSheet(cornered[corners]);
                    hall.seed(seedFor(ofHundred));
                    String call = "corners " + corners + ", z of hundred " + ofHundred;
                    Check.due(call, hall.cut(0, 0, isTurned), isCut);
                    Check.due(call, hall.glass(0), isCut ? 'c' : '-');
                    Check.due("these cells are used then", hall.free(0), 144 - hall.size(0));
                    Check.due("it is sound", hall.isSound(), true);
                }
            }
        }
        LeadlightHall again = withSheet("0#", "00");
        again.seed(seedFor(9));
        again.cut(0, 0, false);
        Check.due("what broke can be wanted", again.want(0, 0, 'h'), false);
        Check.due("what broke can be laid", again.lay(0, 0, 0, 0, 0), 3);
        again.seed(seedFor(10));
        Check.due("what broke can be cut again", again.cut(0, 0, false), true);
        Check.due("both are used", again.free(0), 138);
    }

    // "z, 1 at first, becoming z times 48271 modulo 2147483647 ahead of each cut"
    private static void zGoesRound() {
        LeadlightHall hall = OpeningTest.wall("01234567");
        hall.sheet(0, 12, 12, 'h');
        int[] due = {48271, 182605794, 1291394886, 1914720637};
        Check.due("1 at first", hall.seed(1), 1);
        for (int piece = 0; piece < 4; piece++) {
            hall.cut(0, piece, piece % 2 == 0);
            int z = hall.seed(1);
            hall.seed(z);
            Check.due("z goes on", z, due[piece]);
        }
        hall.seed(2147483646);
        Check.due("the largest z is no hindrance", hall.cut(0, 4, false), true);
        Check.due("z goes round", hall.seed(2147483646), 2147483647 - 48271);
        Check.due("the largest z", hall.seed(1), 2147483646);
        hall.seed(2147483647 - 48271);
        hall.cut(0, 5, false);
        Check.due("z is never below 1", hall.seed(1), (int) (2147483647L - 182605794L));
        LeadlightHall broke = withSheet("0#", "00");
        broke.seed(seedFor(0));
        broke.cut(0, 0, false);
        Check.due("z goes on when it breaks", broke.seed(1) % 100, 0);
    }

    // "Glass that is not leaded can have at most 5 layers laid on, raw at first"; "stain only if it has none that is
    // raw or fixed"
    private static void layersFive() {
        for (char kind : new char[] {'t', 'm', 'e'}) {
            LeadlightHall hall = withSheet("0");
            hall.cut(0, 0, false);
            Check.due("none at first", hall.layers(0, 'r') + hall.layers(0, 'f'), 0);
            for (int count = 1; count <= 5; count++) {
                Check.due("the like again", hall.paint(0, kind), count);
                Check.due("raw at first", hall.layers(0, 'r'), count);
            }
            Check.due("five are lost", hall.fire(1, 700), 0);
            Check.due("five are lost", hall.layers(0, 'r'), 0);
            for (int count = 1; count <= 5; count++) {
                Check.due("five more", hall.paint(0, kind), count);
            }
        }
        LeadlightHall stain = withSheet("0");
        stain.cut(0, 0, false);
        Check.due("stain", stain.paint(0, 's'), 1);
        stain.fire(1, 596);
        Check.due("raw stain is lost", stain.layers(0, 'r') + stain.layers(0, 'f'), 0);
        Check.due("stain, as the raw one is lost", stain.paint(0, 's'), 1);
        stain.fire(1, 595);
        Check.due("stain is fixed", stain.layers(0, 'f'), 1);
        stain.fire(1, 596);
        Check.due("fixed stain is lost", stain.layers(0, 'f'), 0);
        Check.due("stain, as the fixed one is lost", stain.paint(0, 's'), 1);
        for (int count = 2; count <= 5; count++) {
            Check.due("beside stain", stain.paint(0, 'e'), count);
        }
        Check.due("of two kinds, one is lost", stain.fire(1, 565), 1);
        Check.due("of two kinds, one is lost", stain.layers(0, 'f'), 1);
    }

    // "each of their layers that is raw is fixed if its heat is at most 15 from that; one that is raw or fixed, whose
    // heat is more than 15 less, is lost; others stay as they are"
    private static void heats() {
        char[] kinds = {'t', 'm', 's', 'e'};
        int[] heats = {660, 620, 580, 540};
        for (int kind = 0; kind < 4; kind++) {
            tellHeat(kinds[kind], heats[kind] - 16, 0, 1, 0, 1);
            tellHeat(kinds[kind], heats[kind] - 15, 1, 0, 1, 1);
            tellHeat(kinds[kind], heats[kind], 1, 0, 1, 1);
            tellHeat(kinds[kind], heats[kind] + 15, 1, 0, 1, 1);
            tellHeat(kinds[kind], heats[kind] + 16, 0, 0, 0, 0);
            tellHeat(kinds[kind], 500, 0, 1, 0, 1);
            tellHeat(kinds[kind], 700, 0, 0, 0, 0);
        }
    }

    /** What is due of a layer that was raw: how many are fixed by that, then raw, then fixed; of a fixed one: fixed. */
    private static void tellHeat(char kind, int degrees, int now, int raw, int fixed, int stays) {
        LeadlightHall hall = withSheet("01");
        hall.cut(0, 0, false);
        hall.cut(0, 1, false);
        hall.paint(1, kind);
        hall.fire(2, 660 - 40 * "tmse".indexOf(kind));
        hall.paint(0, kind);
        String call = kind + " at " + degrees;
        Check.due(call, hall.fire(1, degrees), now);
        Check.due(call + ", raw", hall.layers(0, 'r'), raw);
        Check.due(call + ", fixed", hall.layers(0, 'f'), fixed);
        Check.due(call + ", another is not fired", hall.layers(1, 'f'), 1);
        Check.due(call + ", a fixed one is not fixed by that", hall.fire(2, degrees), 0);
        Check.due(call + ", a fixed one", hall.layers(1, 'f'), stays);
        Check.due(call + ", a fixed one is never raw", hall.layers(1, 'r'), 0);
    }

    // "In a firing of pieces, at most 6, at some degrees"
    private static void firings() {
        LeadlightHall hall = new LeadlightHall();
        hall.open(0, 0, 11, 0, true);
        hall.sheet(0, 12, 12, 'h');
        int[] pieces = {0, 1, 7, 15, 28, 29};
        int bits = 0;
        for (int at = 0; at < 6; at++) {
            hall.lay(pieces[at], at, 0, at, 0);
            hall.cut(0, pieces[at], false);
            for (int layer = 0; layer < 5; layer++) {
                hall.paint(pieces[at], 'm');
            }
            bits |= 1 << pieces[at];
        }
        Check.due("one piece, the last number", hall.fire(1 << 29, 635), 5);
        Check.due("six pieces, all that is raw", hall.fire(bits, 605), 25);
        Check.due("six pieces, nothing raw", hall.fire(bits, 605), 0);
        Check.due("six pieces at 500", hall.fire(bits, 500), 0);
        Check.due("they stay", hall.layers(28, 'f'), 5);
        Check.due("six pieces at 700", hall.fire(bits, 700), 0);
        Check.due("they are lost", hall.layers(28, 'f'), 0);
        Check.due("without layers", hall.fire(bits, 700), 0);
        LeadlightHall mixed = withSheet("0");
        mixed.cut(0, 0, false);
        for (char kind : new char[] {'t', 'm', 's', 'e'}) {
            mixed.paint(0, kind);
        }
        Check.due("two heats are in reach of none", mixed.fire(1, 600), 0);
        Check.due("two are lost, two stay", mixed.layers(0, 'r'), 2);
        LeadlightHall down = withSheet("0");
        down.cut(0, 0, false);
        for (char kind : new char[] {'t', 'm', 's', 'e'}) {
            down.paint(0, kind);
        }
        for (int degrees = 660; degrees >= 540; degrees -= 40) {
            Check.due("from the hottest on, only the first is fixed", down.fire(1, degrees), degrees == 660 ? 1 : 0);
        }
    }

    // "each cell directly to the left of, or below, one of its cells is its own, stone, or of a piece that is leaded;
    // a cell outside of the 12 by 12 is stone. The lowest number that can come is the next."
    private static void canCome() {
        LeadlightHall hall = new LeadlightHall();
        hall.open(0, 0, 11, 11, true);
        hall.sheet(0, 12, 12, 'h');
        hall.lay(0, 0, 0, 11, 11);
        hall.cut(0, 0, false);
        Check.due("what is all of the wall can come", hall.comes(), 0);
        Check.due("what is all of the wall is up", hall.solder(), 0);
        LeadlightHall ends = LeadingTest.cutAll("3#2", "###", "1#0");
        for (int piece = 0; piece < 4; piece++) {
            Check.due("the lowest number", ends.next(), piece);
            Check.due("the lowest number", ends.comes(), piece);
        }
        LeadlightHall chain = LeadingTest.cutAll("6", "5", "4", "3", "2", "1", "0");
        for (int piece = 0; piece < 7; piece++) {
            Check.due("each waits for the one below", chain.comes(), piece);
        }
        LeadlightHall back = LeadingTest.cutAll("9876543210");
        for (int piece = 9; piece >= 0; piece--) {
            Check.due("each waits for the one to its left", back.comes(), piece);
        }
        Check.due("bare above and to the right", LeadingTest.cutAll("..", "0.").next(), 0);
        Check.due("others above and to the right", OpeningTest.wall("11", "01").isOrderly(), true);
        LeadlightHall far = new LeadlightHall();
        far.open(11, 0, 11, 0, true);
        far.open(0, 1, 0, 1, true);
        far.lay(0, 0, 1, 0, 1);
        far.sheet(0, 1, 1, 'h');
        far.cut(0, 0, false);
        Check.due("the end of the row below is not to its left", far.next(), 0);
        LeadlightHall inner = LeadingTest.cutAll("#00", ".0#");
        Check.fails("one cell of it waits", NONE, inner::next);
        LeadlightHall fixed = LeadingTest.cutAll("0");
        fixed.paint(0, 't');
        fixed.paint(0, 'e');
        fixed.fire(1, 660);
        Check.due("fixed and lost layers are no hindrance", fixed.next(), 0);
    }

    // "The window is orderly if all open cells are of pieces, which they are if none is open, and all pieces, had
    // they glass, could come one behind the other."
    private static void orderly() {
        LeadlightHall hall = new LeadlightHall();
        Check.due("none is open", hall.isOrderly(), true);
        hall.open(0, 0, 11, 11, true);
        Check.due("all are bare", hall.isOrderly(), false);
        hall.lay(0, 0, 0, 11, 11);
        Check.due("all are of one", hall.isOrderly(), true);
        hall.open(11, 11, 11, 11, false);
        hall.open(11, 11, 11, 11, true);
        Check.due("the last one is bare", hall.isOrderly(), false);
        hall.lay(29, 11, 11, 11, 11);
        Check.due("the last one is of the last", hall.isOrderly(), true);
        hall.lay(29, 0, 0, 0, 0);
        Check.due("each waits for the other", hall.isOrderly(), false);
        hall.open(0, 0, 11, 11, false);
        Check.due("none is open again", hall.isOrderly(), true);
        LeadlightHall thirty = new LeadlightHall();
        thirty.open(0, 0, 11, 4, true);
        for (int piece = 0; piece < 30; piece++) {
            thirty.lay(29 - piece, piece % 6 * 2, piece / 6, piece % 6 * 2 + 1, piece / 6);
        }
        Check.due("thirty, the last one first", thirty.isOrderly(), true);
        thirty.lay(29, 11, 4, 11, 4);
        Check.due("thirty, the first one also last", thirty.isOrderly(), false);
        Check.due("hindered ones, had they glass", OpeningTest.wall("000000").isOrderly(), true);
        Check.due("in two parts, had they glass", OpeningTest.wall("0#0").isOrderly(), true);
        Check.due("in two parts that wait", OpeningTest.wall("010").isOrderly(), false);
        Check.due("three that wait in a round", OpeningTest.wall("02", "##", "21", "##", "10").isOrderly(), false);
        Check.due("three that wait in a row", OpeningTest.wall("20", "##", "21", "##", "10").isOrderly(), true);
    }

    // "Once all pieces are leaded, and no open cell is bare, it can be soldered; then it is up"
    private static void soldered() {
        LeadlightHall least = LeadingTest.cutAll("0");
        least.comes();
        Check.due("not up", least.isUp(), false);
        Check.due("the least window has no joint", least.solder(), 0);
        Check.due("up", least.isUp(), true);
        Check.due("bars can be put as it is up", least.bar(11, true), false);
        Check.due("bars can be taken as it is up", least.bar(11, false), true);
        Check.due("wind can be set as it is up", least.wind(100), 0);
        Check.due("z can be set as it is up", least.seed(3) > 0, true);
        Check.due("years go by as it is up", least.years(1), 1);
        LeadlightHall later = LeadingTest.cutAll("01");
        later.comes();
        later.comes();
        later.open(5, 5, 5, 5, true);
        later.open(5, 5, 5, 5, false);
        Check.due("what was bare is stone", later.solder(), 2);
    }

    // "Between two supports, which are bars, and the stone below and above the 12 rows, is a field of rows. A field
    // bears the wind, 0 to 100, 0 at first, times the square of its rows, divided by 4 times the profile .. cut"
    private static void fields() {
        LeadlightHall hall = new LeadlightHall();
        Check.due("no wind", hall.bears(), 0);
        Check.due("no wind", hall.stands(), true);
        hall.wind(1);
        Check.due("12 rows", hall.bears(), 36);
        for (int row = 1; row <= 11; row++) {
            LeadlightHall one = new LeadlightHall();
            one.wind(100);
            one.bar(row, true);
            int rows = Math.max(row, 12 - row);
            Check.due("a bar below row " + row, one.bears(), 25 * rows * rows);
            one.bar(row, false);
            Check.due("no bar", one.bears(), 3600);
        }
        hall.wind(100);
        for (int row = 1; row <= 11; row++) {
            hall.bar(row, true);
        }
        for (int profile = 1; profile <= 4; profile++) {
            hall.profile(profile);
            Check.due("one row each, profile " + profile, hall.bears(), 100 / (4 * profile));
        }
        hall.wind(15);
        Check.due("cut to nothing", hall.bears(), 0);
        hall.wind(16);
        Check.due("just one", hall.bears(), 1);
        hall.wind(31);
        Check.due("just not two", hall.bears(), 1);
        hall.bar(6, false);
        hall.profile(1);
        hall.wind(100);
        Check.due("two rows bear 100", hall.bears(), 100);
        Check.due("100 is not more than 100", hall.stands(), true);
        hall.bar(7, false);
        hall.wind(45);
        Check.due("three rows bear 101", hall.bears(), 101);
        Check.due("101 is more than 100", hall.stands(), false);
    }

    // "and a tenth, cut, of the years that the window is up"
    private static void bowing() {
        LeadlightHall hall = LeadingTest.cutAll("0");
        hall.comes();
        hall.years(500);
        Check.due("not up", hall.bears(), 0);
        hall.solder();
        Check.due("just up", hall.bears(), 0);
        hall.years(9);
        Check.due("9 years", hall.bears(), 0);
        hall.years(1);
        Check.due("10 years", hall.bears(), 1);
        hall.wind(1);
        hall.years(9);
        Check.due("19 years and wind", hall.bears(), 37);
        hall.years(1);
        Check.due("20 years and wind", hall.bears(), 38);
        LeadlightHall old = LeadingTest.upWindow();
        old.years(500);
        old.years(500);
        old.years(9);
        Check.due("1009 years", old.bears(), 100);
        Check.due("1009 years", old.stands(), true);
        old.years(1);
        Check.due("1010 years", old.bears(), 101);
        Check.due("1010 years", old.stands(), false);
        old.years(490);
        old.years(500);
        Check.due("2000 years", old.bears(), 200);
    }

    // "The level of an hour is 100 less 14 for each hour from 12, at least 0."
    private static void lightOfHours() {
        LeadlightHall hall = new LeadlightHall();
        hall.open(0, 0, 0, 0, true);
        hall.open(11, 11, 11, 11, true);
        int[][] due = {{0, 0}, {1, 0}, {4, 0}, {5, 2}, {6, 16}, {11, 86}, {12, 100}, {13, 86}, {18, 16}, {19, 2},
            {20, 0}, {23, 0}};
        for (int[] at : due) {
            Check.due("the first cell at " + at[0], hall.looks(0, 0, at[0]), at[1]);
            Check.due("the last cell at " + at[0], hall.looks(11, 11, at[0]), at[1]);
            Check.due("stone at " + at[0], hall.looks(11, 0, at[0]), 0);
        }
    }

    private static LeadlightHall coloured(int colour, String... rows) {
        LeadlightHall hall = OpeningTest.wall(rows);
        hall.want(0, colour, '-');
        hall.sheet(colour, 12, 12, 'h');
        hall.cut(0, 0, false);
        return hall;
    }

    private static void paintFixed(LeadlightHall hall, int count) {
        for (int layer = 0; layer < count; layer++) {
            hall.paint(0, 't');
        }
        hall.fire(1, 660);
    }

    // "the level times the clearness of its colour, 100 for 0, otherwise 90 less 8 times the colour, divided by 100,
    // cut, less 10 for each fixed layer, at least 0"
    private static void lightOfColours() {
        Check.due("colour 0", coloured(0, "0").looks(0, 0, 12), 100);
        Check.due("colour 1", coloured(1, "0").looks(0, 0, 12), 82);
        Check.due("colour 9", coloured(9, "0").looks(0, 0, 12), 18);
        Check.due("cut", coloured(1, "0").looks(0, 0, 11), 70);
        Check.due("cut to nothing", coloured(9, "0").looks(0, 0, 19), 0);
        Check.due("no level", coloured(0, "0").looks(0, 0, 0), 0);
        int[] due = {18, 8, 0, 0, 0, 0};
        for (int count = 0; count <= 5; count++) {
            LeadlightHall hall = coloured(9, "0");
            paintFixed(hall, count);
            Check.due("colour 9, layers " + count, hall.looks(0, 0, 12), due[count]);
        }
        LeadlightHall half = coloured(0, "0");
        paintFixed(half, 5);
        Check.due("five layers", half.looks(0, 0, 12), 50);
        half.fire(1, 676);
        Check.due("lost ones take nothing", half.looks(0, 0, 12), 100);
        half.paint(0, 't');
        Check.due("raw ones take nothing", half.looks(0, 0, 12), 100);
        Check.due("other open cells have the level", OpeningTest.wall("0").looks(0, 0, 12), 100);
    }

    // "A cell looks as that less 5 for each of the four beside it that has at least 30 more, at least 0."
    private static void lightBeside() {
        LeadlightHall equal = coloured(0, "0.");
        paintFixed(equal, 3);
        Check.due("30 more", equal.looks(0, 0, 12), 65);
        Check.due("30 less", equal.looks(1, 0, 12), 100);
        LeadlightHall less = coloured(5, "0.");
        Check.due("29 more, of 58", less.looks(0, 0, 9), 29);
        Check.due("36 more, of 72", less.looks(0, 0, 10), 31);
        LeadlightHall dark = coloured(9, "#.#", ".0.", "#.#");
        paintFixed(dark, 1);
        Check.due("8 less 20, at least 0", dark.looks(1, 1, 12), 0);
        LeadlightHall nine = coloured(9, "#.#", ".0.", "#.#");
        Check.due("18 less 20, at least 0", nine.looks(1, 1, 12), 0);
        nine.open(1, 2, 1, 2, false);
        Check.due("18 less 15", nine.looks(1, 1, 12), 3);
        LeadlightHall across = coloured(9, ".#.", "#0#", ".#.");
        Check.due("those over a corner take nothing", across.looks(1, 1, 12), 18);
        LeadlightHall stone = coloured(9, "0");
        Check.due("stone takes nothing", stone.looks(0, 0, 12), 18);
        LeadlightHall line = OpeningTest.wall("0.1");
        line.want(0, 9, '-');
        line.sheet(9, 1, 1, 'h');
        line.cut(0, 0, false);
        Check.due("what a neighbour has counts, not how it looks", line.looks(0, 0, 12), 13);
        Check.due("a bright one loses nothing", line.looks(1, 0, 12), 100);
        LeadlightHall same = coloured(9, "00", "00");
        Check.due("its own piece beside takes nothing", same.looks(1, 1, 12), 18);
        LeadlightHall ends = new LeadlightHall();
        ends.open(0, 0, 11, 11, true);
        ends.lay(0, 0, 0, 0, 0);
        ends.want(0, 9, '-');
        ends.sheet(9, 1, 1, 'h');
        ends.cut(0, 0, false);
        Check.due("two beside it at the wall's end", ends.looks(0, 0, 12), 8);
        Check.due("the end of another row is not beside", ends.looks(11, 0, 12), 100);
    }

    // "A broken piece can be mended by a lead, or have a stopgap .. if its glass is less than 100 years old"
    private static void mending() {
        LeadlightHall hall = LeadingTest.upWindow();
        hall.sheet(9, 2, 1, 'v');
        Check.due("stone does not break", hall.hit(11, 11), false);
        Check.due("it breaks", hall.hit(0, 0), true);
        Check.due("it is broken", hall.hit(1, 0), false);
        hall.years(99);
        int z = hall.seed(1);
        hall.seed(z);
        Check.due("99 years old", hall.stopgap(0, 1), 1);
        Check.due("z stays", hall.seed(z), z);
        Check.due("of whatever colour", hall.colour(0), 9);
        Check.due("of this year", hall.year(0), 99);
        Check.due("without layers", hall.layers(0, 'f') + hall.layers(0, 'r'), 0);
        Check.due("all of the sheet is used", hall.free(1), 0);
        Check.due("it is leaded", hall.glass(0), 'l');
        Check.due("it can break", hall.hit(0, 0), true);
        hall.years(100);
        Check.due("an old one can be mended", hall.mend(0), 2);
        Check.due("it stays as old", hall.year(0), 99);
        Check.due("a lead leaves its colour", hall.colour(0), 9);
        Check.due("the other is broken", hall.hit(0, 1), true);
        hall.years(500);
        Check.due("a very old one can be mended", hall.mend(1), 3);
        Check.due("it is sound", hall.isSound(), true);
        LeadlightHall painted = LeadingTest.upWindow();
        painted.hit(0, 0);
        painted.mend(0);
        Check.due("mending leaves the layers", painted.layers(0, 'f'), 1);
        LeadlightHall wide = LeadingTest.cutAll("11#", "000");
        wide.comes();
        wide.comes();
        wide.solder();
        wide.sheet(3, 2, 1, 'h');
        wide.sheet(3, 3, 1, 'h');
        wide.hit(0, 0);
        wide.hit(0, 1);
        Check.due("another is asked for", wide.corners(0), 0);
        Check.due("a stopgap is as large as its piece", wide.stopgap(1, 1), 1);
        Check.due("a stopgap is as large as its piece", wide.stopgap(0, 2), 2);
        Check.due("both use all", wide.free(1) + wide.free(2), 0);
        LeadlightHall cornered = LeadingTest.cutAll("0##0", "0000");
        cornered.comes();
        cornered.solder();
        for (int again = 1; again <= 5; again++) {
            cornered.hit(0, 0);
            cornered.seed(seedFor(0));
            Check.due("no cut of a stopgap breaks", cornered.stopgap(0, 0), again);
            Check.due("no cut of a stopgap breaks", cornered.glass(0), 'l');
        }
    }

    // "Each glass, and each mending lead .. is of the year in which it came; years go by as told, from 0 on, 2000 at
    // most."
    private static void unlikeYears() {
        LeadlightHall hall = withSheet("01");
        Check.due("no glass", hall.hands(), 0);
        hall.cut(0, 0, false);
        Check.due("the year 0", hall.year(0), 0);
        Check.due("one year", hall.years(1), 1);
        hall.cut(0, 1, false);
        Check.due("the year 1", hall.year(1), 1);
        Check.due("two unlike years", hall.hands(), 2);
        hall.comes();
        hall.comes();
        hall.solder();
        hall.years(499);
        for (int year = 1000; year <= 2000; year += 500) {
            Check.due("500 years", hall.years(500), year);
        }
        hall.hit(0, 0);
        Check.due("a lead in the year 2000", hall.mend(0), 1);
        Check.due("three unlike years", hall.hands(), 3);
        hall.hit(1, 0);
        hall.mend(1);
        Check.due("two leads of one year", hall.hands(), 3);
        LeadlightHall cut = LeadingTest.cutAll("0");
        for (int times = 0; times < 4; times++) {
            cut.years(500);
        }
        cut.open(1, 0, 1, 0, true);
        cut.lay(1, 1, 0, 1, 0);
        cut.cut(0, 1, false);
        Check.due("glass of the year 2000", cut.year(1), 2000);
        Check.due("glass of 0 and 2000", cut.hands(), 2);
    }

    // "how many other pieces, without glass, or broken, have its shape, not turned, and want the colour of its glass"
    private static void fitting() {
        LeadlightHall hall = OpeningTest.wall("00#11#2#33", "0##1##2##3", "##########", "44#5#66###", "#4#55##6##");
        hall.sheet(0, 12, 12, 'h');
        hall.seed(5);
        Check.due("cut", hall.cut(0, 0, false), true);
        Check.due("only the like one", hall.fits(0), 1);
        Check.due("another is asked for", hall.corners(4), 1);
        Check.due("only the like one", hall.fits(0), 1);
        hall.want(1, 1, '-');
        Check.due("it wants another colour", hall.fits(0), 0);
        hall.want(1, 0, 'v');
        Check.due("it wants streaks", hall.fits(0), 1);
        hall.want(1, 0, '-');
        hall.seed(5);
        hall.cut(0, 1, false);
        Check.due("it has glass", hall.fits(0), 0);
        Check.due("nor does it fit there", hall.fits(1), 0);
        LeadlightHall all = new LeadlightHall();
        all.open(0, 0, 11, 11, true);
        for (int piece = 0; piece < 30; piece++) {
            all.lay(piece, piece % 12, piece / 12, piece % 12, piece / 12);
        }
        all.sheet(0, 12, 12, 'h');
        all.cut(0, 29, false);
        Check.due("29 others", all.fits(29), 29);
        LeadlightHall up = LeadingTest.upWindow();
        up.hit(0, 0);
        up.hit(0, 1);
        Check.due("a broken one in another broken one", up.fits(0), 1);
        LeadlightHall apart = new LeadlightHall();
        apart.open(0, 0, 0, 0, true);
        apart.open(11, 11, 11, 11, true);
        apart.lay(0, 0, 0, 0, 0);
        apart.lay(29, 11, 11, 11, 11);
        apart.sheet(0, 1, 1, 'h');
        apart.cut(0, 29, false);
        Check.due("from end to end of the wall", apart.fits(29), 1);
    }

    // "The window costs 3 for each side with lead, one between two pieces counted once, 5 for each piece with glass,
    // 2 for each fixed layer and 7 for each mend."
    private static void prices() {
        LeadlightHall hall = OpeningTest.wall("..");
        Check.due("bare costs nothing", hall.price(), 0);
        hall.lay(0, 0, 0, 0, 0);
        Check.due("four sides", hall.price(), 12);
        hall.lay(1, 1, 0, 1, 0);
        Check.due("seven sides", hall.price(), 21);
        hall.sheet(0, 12, 12, 'h');
        hall.cut(0, 0, false);
        Check.due("glass", hall.price(), 26);
        paintFixed(hall, 5);
        Check.due("five fixed layers", hall.price(), 36);
        hall.fire(1, 700);
        Check.due("lost layers", hall.price(), 26);
        hall.cut(0, 1, false);
        hall.comes();
        hall.comes();
        hall.solder();
        hall.hit(0, 0);
        Check.due("broken glass is glass", hall.price(), 31);
        hall.mend(0);
        Check.due("a mending lead", hall.price(), 38);
        hall.hit(1, 0);
        hall.stopgap(1, 0);
        Check.due("a stopgap", hall.price(), 45);
        LeadlightHall broke = withSheet("0#", "00");
        broke.seed(seedFor(0));
        broke.cut(0, 0, false);
        Check.due("what broke at cutting costs nothing", broke.price(), 24);
    }

    // Promises 41 to 44, of what is empty and what is full.
    private static void sums() {
        long sum = 7;
        for (int cell = 0; cell < 144; cell++) {
            sum = 31 * sum - 2;
        }
        for (int piece = 0; piece < 30; piece++) {
            sum = 31 * (31 * sum + '-');
        }
        Check.due("a wall of stone, round the end of a long", new LeadlightHall().checksum(), sum);
        LeadlightHall bare = OpeningTest.wall(".");
        Check.due("nothing is lit", bare.litShare(), 0.0f);
        LeadlightHall all = new LeadlightHall();
        all.open(0, 0, 11, 11, true);
        all.lay(0, 0, 0, 11, 11);
        Check.due("the largest mean", all.meanCells(), 144.0);
        all.sheet(0, 12, 12, 'h');
        all.cut(0, 0, false);
        Check.due("all is lit", all.litShare(), 1.0f);
        LeadlightHall least = new LeadlightHall();
        least.open(0, 0, 11, 11, true);
        least.lay(0, 0, 0, 0, 0);
        least.cut(least.sheet(0, 1, 1, 'h'), 0, false);
        Check.due("one of all is lit", least.litShare(), 1.0f / 144.0f);
        Check.due("the smallest mean", least.meanCells(), 1.0);
        least.comes();
        Check.due("leaded between bare ones above and to the right", least.isSound(), true);
    }
}
