import java.util.ArrayList;
import java.util.HashSet;
import java.util.List;
import java.util.NoSuchElementException;
import java.util.Set;
import java.util.TreeSet;

/**
 * The document told a second time, as slowly and plainly as it can be: cells as texts of a set, layers as a list of
 * all that were ever laid, mends as a story. It shares nothing with the class.
 */
final class PlainHall {
    private static final String KINDS = "tmse";
    private static final int[] HEATS = {660, 620, 580, 540};

    /** A cell of the wall, of a sheet, or of a shape. */
    record Cell(int x, int y) {
        Cell moved(int right, int up) {
            return new Cell(x + right, y + up);
        }

        /** By a quarter to the left: what lay to the right lies above. */
        Cell turned() {
            return new Cell(-y, x);
        }
    }

    private static final class Layer {
        private char kind;
        private char how = 'r';
    }

    private static final class Glass {
        private int colour;
        private int year;
        private char how = 'c';
        private List<Layer> layers = new ArrayList<>();
        private List<Integer> leadYears = new ArrayList<>();
    }

    private static final class Sheet {
        private int colour;
        private int width;
        private int height;
        private char streaks;
        private Set<Cell> used = new HashSet<>();
    }

    private final int[][] wall = new int[12][12];
    private final int[] wantedColour = new int[30];
    private final char[] wantedStreaks = new char[30];
    private final Glass[] glass = new Glass[30];
    private final List<Sheet> sheets = new ArrayList<>();
    private final List<String> mends = new ArrayList<>();
    private final Set<Integer> bars = new TreeSet<>();
    private int profile = 1;
    private int wind = 0;
    private int z = 1;
    private int year = 0;
    private int yearsUp = 0;
    private int cutCells = 0;
    private boolean isUp = false;

    PlainHall() {
        for (int x = 0; x < 12; x++) {
            for (int y = 0; y < 12; y++) {
                wall[x][y] = -2;
            }
        }
        for (int piece = 0; piece < 30; piece++) {
            wantedStreaks[piece] = '-';
        }
    }

    // What the document says of exceptions, shared by many calls.

    private static void refuseIf(boolean is, RuntimeException thrown) {
        if (is) {
            throw thrown;
        }
    }

    private static void number(int piece) {
        refuseIf(piece < 0 || piece > 29, new IndexOutOfBoundsException());
    }

    private void numberOfSheet(int sheet) {
        refuseIf(sheet < 0 || sheet >= sheets.size(), new IndexOutOfBoundsException());
    }

    private static void range(int number, int least, int most) {
        refuseIf(number < least || number > most, new IllegalArgumentException());
    }

    private static void cells(int left, int low, int right, int high) {
        for (int number : new int[] {left, low, right, high}) {
            range(number, 0, 11);
        }
        refuseIf(right < left || high < low, new IllegalArgumentException());
    }

    private void overOnceUp() {
        refuseIf(isUp, new UnsupportedOperationException());
    }

    // The opening and its pieces.

    int open(int left, int low, int right, int high, boolean isOpen) {
        cells(left, low, right, high);
        overOnceUp();
        int other = 0;
        for (int x = left; x <= right; x++) {
            for (int y = low; y <= high; y++) {
                refuseIf(wall[x][y] >= 0 && glass[wall[x][y]] != null, new UnsupportedOperationException());
                other += (wall[x][y] == -2) == isOpen ? 1 : 0;
            }
        }
        for (int x = left; x <= right; x++) {
            for (int y = low; y <= high; y++) {
                wall[x][y] = !isOpen ? -2 : wall[x][y] == -2 ? -1 : wall[x][y];
            }
        }
        return other;
    }

    int lay(int piece, int left, int low, int right, int high) {
        number(piece);
        cells(left, low, right, high);
        overOnceUp();
        refuseIf(glass[piece] != null, new UnsupportedOperationException());
        List<Cell> laid = new ArrayList<>();
        for (int x = left; x <= right; x++) {
            for (int y = low; y <= high; y++) {
                if (wall[x][y] != -2) {
                    refuseIf(wall[x][y] != -1 && glass[wall[x][y]] != null, new UnsupportedOperationException());
                    laid.add(new Cell(x, y));
                }
            }
        }
        refuseIf(laid.isEmpty(), new UnsupportedOperationException());
        for (Cell cell : laid) {
            wall[cell.x][cell.y] = piece;
        }
        return shape(piece).size();
    }

    private int at(int x, int y) {
        return x < 0 || y < 0 || x > 11 || y > 11 ? -2 : wall[x][y];
    }

    int pieceAt(int x, int y) {
        range(x, 0, 11);
        range(y, 0, 11);
        return wall[x][y];
    }

    private Set<Cell> shape(int piece) {
        Set<Cell> shape = new HashSet<>();
        for (int x = 0; x < 12; x++) {
            for (int y = 0; y < 12; y++) {
                if (wall[x][y] == piece) {
                    shape.add(new Cell(x, y));
                }
            }
        }
        return shape;
    }

    int size(int piece) {
        number(piece);
        return shape(piece).size();
    }

    private static boolean isWhole(Set<Cell> shape) {
        Set<Cell> left = new HashSet<>(shape);
        List<Cell> reached = new ArrayList<>();
        for (Cell first : shape) {
            reached.add(first);
            left.remove(first);
            break;
        }
        for (int at = 0; at < reached.size(); at++) {
            Cell from = reached.get(at);
            for (Cell to : List.of(from.moved(1, 0), from.moved(-1, 0), from.moved(0, 1), from.moved(0, -1))) {
                if (left.remove(to)) {
                    reached.add(to);
                }
            }
        }
        return left.isEmpty();
    }

    private static int corners(Set<Cell> shape) {
        int corners = 0;
        for (int x = 0; x <= 12; x++) {
            for (int y = 0; y <= 12; y++) {
                int own = 0;
                for (Cell around : List.of(new Cell(x, y), new Cell(x - 1, y), new Cell(x, y - 1),
                        new Cell(x - 1, y - 1))) {
                    own += shape.contains(around) ? 1 : 0;
                }
                corners += own == 3 ? 1 : 0;
            }
        }
        return corners;
    }

    private static int point(Set<Cell> shape) {
        int longest = 0;
        for (Cell first : shape) {
            int level = 0;
            for (Cell at = first; shape.contains(at) && !shape.contains(at.moved(0, 1))
                    && !shape.contains(at.moved(0, -1)); at = at.moved(1, 0)) {
                level++;
            }
            int upright = 0;
            for (Cell at = first; shape.contains(at) && !shape.contains(at.moved(1, 0))
                    && !shape.contains(at.moved(-1, 0)); at = at.moved(0, 1)) {
                upright++;
            }
            longest = Math.max(longest, Math.max(level, upright));
        }
        return longest;
    }

    private static char hinders(Set<Cell> shape) {
        if (shape.isEmpty()) {
            return 'e';
        }
        if (!isWhole(shape)) {
            return 'w';
        }
        if (corners(shape) > 2) {
            return 'c';
        }
        return point(shape) > 4 ? 'p' : '-';
    }

    int corners(int piece) {
        number(piece);
        return corners(shape(piece));
    }

    int point(int piece) {
        number(piece);
        return point(shape(piece));
    }

    char hinders(int piece) {
        number(piece);
        return hinders(shape(piece));
    }

    int split(int piece) {
        number(piece);
        overOnceUp();
        refuseIf(glass[piece] != null, new UnsupportedOperationException());
        Set<Cell> best = null;
        int least = 0;
        for (boolean isUpright : new boolean[] {true, false}) {
            for (int line = 0; line <= 12; line++) {
                Set<Cell> near = new HashSet<>();
                Set<Cell> far = new HashSet<>();
                for (Cell cell : shape(piece)) {
                    ((isUpright ? cell.x : cell.y) < line ? near : far).add(cell);
                }
                int lead = 0;
                for (Cell cell : near) {
                    lead += far.contains(isUpright ? cell.moved(1, 0) : cell.moved(0, 1)) ? 1 : 0;
                }
                if (hinders(near) == '-' && hinders(far) == '-' && (best == null || lead < least)) {
                    best = far;
                    least = lead;
                }
            }
        }
        refuseIf(best == null, new UnsupportedOperationException());
        int other = 0;
        while (other < 30 && !shape(other).isEmpty()) {
            other++;
        }
        refuseIf(other == 30, new IllegalStateException());
        for (Cell cell : best) {
            wall[cell.x][cell.y] = other;
        }
        wantedColour[other] = wantedColour[piece];
        wantedStreaks[other] = wantedStreaks[piece];
        return other;
    }

    /** Sides as texts: where they are, and whether they are upright, so that one between two is there once. */
    private Set<String> leads() {
        Set<String> leads = new HashSet<>();
        for (int x = 0; x < 12; x++) {
            for (int y = 0; y < 12; y++) {
                if (wall[x][y] >= 0) {
                    addLead(leads, at(x - 1, y) != wall[x][y], x, y, '|');
                    addLead(leads, at(x + 1, y) != wall[x][y], x + 1, y, '|');
                    addLead(leads, at(x, y - 1) != wall[x][y], x, y, '_');
                    addLead(leads, at(x, y + 1) != wall[x][y], x, y + 1, '_');
                }
            }
        }
        return leads;
    }

    private static void addLead(Set<String> leads, boolean is, int x, int y, char way) {
        if (is) {
            leads.add(x + " " + y + way);
        }
    }

    int lead() {
        return leads().size();
    }

    int joints() {
        Set<String> leads = leads();
        int joints = 0;
        for (int x = 0; x <= 12; x++) {
            for (int y = 0; y <= 12; y++) {
                int meeting = 0;
                for (String side : List.of(x + " " + y + "|", x + " " + (y - 1) + "|", x + " " + y + "_",
                        x - 1 + " " + y + "_")) {
                    meeting += leads.contains(side) ? 1 : 0;
                }
                joints += meeting >= 3 ? 1 : 0;
            }
        }
        return joints;
    }

    // Glass and paint.

    int sheet(int colour, int width, int height, char streaks) {
        range(colour, 0, 9);
        range(width, 1, 12);
        range(height, 1, 12);
        refuseIf("hv".indexOf(streaks) < 0, new IllegalArgumentException());
        refuseIf(sheets.size() == 8, new IllegalStateException());
        Sheet sheet = new Sheet();
        sheet.colour = colour;
        sheet.width = width;
        sheet.height = height;
        sheet.streaks = streaks;
        sheets.add(sheet);
        return sheets.size() - 1;
    }

    int free(int sheet) {
        numberOfSheet(sheet);
        Sheet of = sheets.get(sheet);
        return of.width * of.height - of.used.size();
    }

    boolean want(int piece, int colour, char streaks) {
        number(piece);
        range(colour, 0, 9);
        refuseIf("hv-".indexOf(streaks) < 0, new IllegalArgumentException());
        refuseIf(glass[piece] != null, new UnsupportedOperationException());
        overOnceUp();
        boolean isSame = wantedColour[piece] == colour && wantedStreaks[piece] == streaks;
        wantedColour[piece] = colour;
        wantedStreaks[piece] = streaks;
        return isSame;
    }

    boolean cut(int sheet, int piece, boolean isTurned) {
        numberOfSheet(sheet);
        number(piece);
        Sheet from = sheets.get(sheet);
        char streaks = !isTurned ? from.streaks : from.streaks == 'h' ? 'v' : 'h';
        refuseIf(glass[piece] != null, new IllegalArgumentException());
        refuseIf(wantedColour[piece] != from.colour, new IllegalArgumentException());
        refuseIf(wantedStreaks[piece] != '-' && wantedStreaks[piece] != streaks, new IllegalArgumentException());
        refuseIf(hinders(piece) != '-', new IllegalArgumentException());
        overOnceUp();
        List<Cell> laid = laid(from, shape(piece), isTurned);
        refuseIf(laid == null, new UnsupportedOperationException());
        from.used.addAll(laid);
        cutCells += laid.size();
        z = (int) (z * 48271L % 2147483647L);
        if (z % 100 < 10 * corners(piece)) {
            return false;
        }
        glass[piece] = new Glass();
        glass[piece].colour = from.colour;
        glass[piece].year = year;
        return true;
    }

    /** The cells of the sheet that the shape takes, null if it is nowhere free. */
    private static List<Cell> laid(Sheet sheet, Set<Cell> shape, boolean isTurned) {
        for (int up = -24; up <= 24; up++) {
            for (int right = -24; right <= 24; right++) {
                List<Cell> laid = new ArrayList<>();
                for (Cell cell : shape) {
                    Cell at = (isTurned ? cell.turned() : cell).moved(right, up);
                    if (at.x < 0 || at.y < 0 || at.x >= sheet.width || at.y >= sheet.height
                            || sheet.used.contains(at)) {
                        laid = null;
                        break;
                    }
                    laid.add(at);
                }
                if (laid != null) {
                    return laid;
                }
            }
        }
        return null;
    }

    char glass(int piece) {
        number(piece);
        return glass[piece] == null ? '-' : glass[piece].how;
    }

    private Glass glassOf(int piece) {
        number(piece);
        refuseIf(glass[piece] == null, new NoSuchElementException());
        return glass[piece];
    }

    int colour(int piece) {
        return glassOf(piece).colour;
    }

    private static int count(Glass glass, String hows) {
        int count = 0;
        if (glass != null) {
            for (Layer layer : glass.layers) {
                count += hows.indexOf(layer.how) >= 0 ? 1 : 0;
            }
        }
        return count;
    }

    int paint(int piece, char kind) {
        number(piece);
        refuseIf(KINDS.indexOf(kind) < 0, new IllegalArgumentException());
        overOnceUp();
        refuseIf(glass(piece) != 'c', new UnsupportedOperationException());
        for (Layer layer : glass[piece].layers) {
            refuseIf(kind == 's' && layer.kind == 's' && layer.how != 'x', new UnsupportedOperationException());
        }
        refuseIf(count(glass[piece], "rf") == 5, new IllegalStateException());
        Layer layer = new Layer();
        layer.kind = kind;
        glass[piece].layers.add(layer);
        return count(glass[piece], "rf");
    }

    int fire(int pieces, int degrees) {
        List<Integer> fired = new ArrayList<>();
        for (int bit = 0; bit < 32; bit++) {
            if ((pieces >>> bit) % 2 != 0) {
                refuseIf(bit >= 30, new IllegalArgumentException());
                fired.add(bit);
            }
        }
        range(fired.size(), 1, 6);
        range(degrees, 500, 700);
        overOnceUp();
        for (int piece : fired) {
            refuseIf(glass(piece) != 'c', new UnsupportedOperationException());
        }
        int fixed = 0;
        for (int piece : fired) {
            for (Layer layer : glass[piece].layers) {
                int heat = HEATS[KINDS.indexOf(layer.kind)];
                if (layer.how == 'r' && heat >= degrees - 15 && heat <= degrees + 15) {
                    layer.how = 'f';
                    fixed++;
                } else if (heat < degrees - 15) {
                    layer.how = 'x';
                }
            }
        }
        return fixed;
    }

    int layers(int piece, char how) {
        number(piece);
        refuseIf("rf".indexOf(how) < 0, new IllegalArgumentException());
        return count(glass[piece], String.valueOf(how));
    }

    int seed(int z) {
        range(z, 1, 2147483646);
        int before = this.z;
        this.z = z;
        return before;
    }

    // Leading.

    /** Whether all to the left of, or below, a piece is its own, stone, or among some. */
    private boolean isHeld(int piece, Set<Integer> some) {
        for (Cell cell : shape(piece)) {
            for (int beside : new int[] {at(cell.x - 1, cell.y), at(cell.x, cell.y - 1)}) {
                if (beside != piece && beside != -2 && !some.contains(beside)) {
                    return false;
                }
            }
        }
        return true;
    }

    private Set<Integer> pieces() {
        Set<Integer> pieces = new TreeSet<>();
        for (int piece = 0; piece < 30; piece++) {
            if (!shape(piece).isEmpty()) {
                pieces.add(piece);
            }
        }
        return pieces;
    }

    private Set<Integer> piecesThatAre(String hows) {
        Set<Integer> pieces = new TreeSet<>();
        for (int piece = 0; piece < 30; piece++) {
            if (hows.indexOf(glass(piece)) >= 0) {
                pieces.add(piece);
            }
        }
        return pieces;
    }

    boolean isOrderly() {
        Set<Integer> come = new TreeSet<>();
        for (int round = 0; round < 30; round++) {
            for (int piece : pieces()) {
                if (isHeld(piece, come)) {
                    come.add(piece);
                }
            }
        }
        return shape(-1).isEmpty() && come.equals(pieces());
    }

    int next() {
        for (int piece = 0; piece < 30; piece++) {
            if (glass(piece) == 'c' && count(glass[piece], "r") == 0 && isHeld(piece, piecesThatAre("l"))) {
                return piece;
            }
        }
        throw new NoSuchElementException();
    }

    int comes() {
        int piece = next();
        glass[piece].how = 'l';
        return piece;
    }

    int solder() {
        overOnceUp();
        refuseIf(pieces().isEmpty() || !shape(-1).isEmpty(), new UnsupportedOperationException());
        for (int piece : pieces()) {
            refuseIf(glass(piece) != 'l', new UnsupportedOperationException());
        }
        isUp = true;
        return joints();
    }

    boolean isUp() {
        return isUp;
    }

    boolean bar(int row, boolean is) {
        range(row, 1, 11);
        boolean was = bars.contains(row);
        if (is) {
            bars.add(row);
        } else {
            bars.remove(row);
        }
        return was;
    }

    int profile(int profile) {
        range(profile, 1, 4);
        overOnceUp();
        int before = this.profile;
        this.profile = profile;
        return before;
    }

    int wind(int wind) {
        range(wind, 0, 100);
        int before = this.wind;
        this.wind = wind;
        return before;
    }

    int bears() {
        int most = 0;
        for (int row = 0; row < 12; row++) {
            int below = row;
            while (below > 0 && !bars.contains(below)) {
                below--;
            }
            int above = row + 1;
            while (above < 12 && !bars.contains(above)) {
                above++;
            }
            int rows = above - below;
            most = Math.max(most, wind * rows * rows / (4 * profile) + yearsUp / 10);
        }
        return most;
    }

    boolean stands() {
        return bears() <= 100;
    }

    // The years.

    int years(int years) {
        range(years, 1, 500);
        refuseIf(year + years > 2000, new IllegalStateException());
        year += years;
        yearsUp += isUp ? years : 0;
        return year;
    }

    private int light(int x, int y, int hour) {
        int level = 100;
        for (int from = Math.min(hour, 12); from < Math.max(hour, 12); from++) {
            level = Math.max(0, level - 14);
        }
        if (at(x, y) == -2) {
            return 0;
        }
        if (at(x, y) == -1 || "-b".indexOf(glass(at(x, y))) >= 0) {
            return level;
        }
        Glass of = glass[at(x, y)];
        int clearness = of.colour == 0 ? 100 : 90 - 8 * of.colour;
        return Math.max(0, level * clearness / 100 - 10 * count(of, "f"));
    }

    int looks(int x, int y, int hour) {
        range(x, 0, 11);
        range(y, 0, 11);
        range(hour, 0, 23);
        int looks = light(x, y, hour);
        for (Cell beside : List.of(new Cell(x + 1, y), new Cell(x - 1, y), new Cell(x, y + 1), new Cell(x, y - 1))) {
            looks -= light(beside.x, beside.y, hour) - light(x, y, hour) >= 30 ? 5 : 0;
        }
        return Math.max(0, looks);
    }

    boolean hit(int x, int y) {
        range(x, 0, 11);
        range(y, 0, 11);
        refuseIf(!isUp, new UnsupportedOperationException());
        if (wall[x][y] == -2 || glass(wall[x][y]) == 'b') {
            return false;
        }
        glass[wall[x][y]].how = 'b';
        return true;
    }

    int mend(int piece) {
        refuseIf(glass(piece) != 'b', new UnsupportedOperationException());
        glass[piece].how = 'l';
        glass[piece].leadYears.add(year);
        mends.add("lead");
        return mends.size();
    }

    int stopgap(int piece, int sheet) {
        number(piece);
        numberOfSheet(sheet);
        refuseIf(glass(piece) != 'b' || year - glass[piece].year >= 100, new UnsupportedOperationException());
        List<Cell> laid = laid(sheets.get(sheet), shape(piece), false);
        refuseIf(laid == null, new UnsupportedOperationException());
        sheets.get(sheet).used.addAll(laid);
        cutCells += laid.size();
        glass[piece] = new Glass();
        glass[piece].colour = sheets.get(sheet).colour;
        glass[piece].year = year;
        glass[piece].how = 'l';
        mends.add("stopgap");
        return mends.size();
    }

    int year(int piece) {
        return glassOf(piece).year;
    }

    int hands() {
        Set<Integer> unlike = new HashSet<>();
        for (Glass of : glass) {
            if (of != null) {
                unlike.add(of.year);
                unlike.addAll(of.leadYears);
            }
        }
        return unlike.size();
    }

    private static Set<Cell> moved(Set<Cell> shape, Cell to) {
        Set<Cell> moved = new HashSet<>();
        for (Cell cell : shape) {
            moved.add(cell.moved(to.x, to.y));
        }
        return moved;
    }

    int fits(int piece) {
        Glass of = glassOf(piece);
        int fits = 0;
        for (int other : pieces()) {
            if (other != piece && "-b".indexOf(glass(other)) >= 0 && wantedColour[other] == of.colour) {
                boolean isLike = false;
                int tries = size(other) == size(piece) ? 11 : -1;
                for (int right = -tries; right <= tries; right++) {
                    for (int up = -tries; up <= tries; up++) {
                        isLike |= moved(shape(other), new Cell(right, up)).equals(shape(piece));
                    }
                }
                fits += isLike ? 1 : 0;
            }
        }
        return fits;
    }

    int price() {
        int price = 3 * lead() + 7 * mends.size();
        for (Glass of : glass) {
            price += of == null ? 0 : 5 + 2 * count(of, "f");
        }
        return price;
    }

    // Sums.

    long checksum() {
        long sum = 7;
        for (int y = 0; y < 12; y++) {
            for (int x = 0; x < 12; x++) {
                sum = sum * 31 + pieceAt(x, y);
            }
        }
        for (int piece = 0; piece < 30; piece++) {
            sum = sum * 31 + glass(piece);
            sum = sum * 31 + layers(piece, 'f');
        }
        return sum;
    }

    float litShare() {
        int lit = 0;
        for (int piece : piecesThatAre("clb")) {
            lit += size(piece);
        }
        int open = 144 - shape(-2).size();
        refuseIf(open == 0, new NoSuchElementException());
        return (float) lit / (float) open;
    }

    double meanCells() {
        int cells = 0;
        for (int piece : pieces()) {
            cells += size(piece);
        }
        refuseIf(cells == 0, new NoSuchElementException());
        return (double) cells / (double) pieces().size();
    }

    boolean isSound() {
        int used = 0;
        for (Sheet sheet : sheets) {
            used += sheet.used.size();
        }
        boolean isSound = used == cutCells;
        for (int piece : piecesThatAre("clb")) {
            isSound &= isWhole(shape(piece)) && corners(shape(piece)) <= 2;
        }
        for (int piece : piecesThatAre("l")) {
            isSound &= isHeld(piece, piecesThatAre("lb")) && count(glass[piece], "r") == 0;
        }
        return isSound;
    }
}
