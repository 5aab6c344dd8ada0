import java.util.NoSuchElementException;

/** A window of coloured glass, from the sketch to the tracery. */
public final class LeadlightHall {
    private static final int SIDE = 12;
    private static final int PIECES = 30;
    private static final int SHEETS = 8;
    private static final int COLOURS = 10;
    private static final int STONE = -2;
    private static final int BARE = -1;
    /** The bit behind those of the pieces: open cells that are of none. */
    private static final int BARE_BIT = 1 << PIECES;
    private static final char NO_GLASS = '-';
    private static final char CUT = 'c';
    private static final char LEADED = 'l';
    private static final char BROKEN = 'b';
    private static final char NOTHING = '-';
    private static final char ANY = '-';
    private static final int MOST_CORNERS = 2;
    private static final int MOST_POINT = 4;
    private static final int MOST_LAYERS = 5;
    private static final int MOST_FIRED = 6;
    private static final int MOST_BORNE = 100;
    private static final int OLD = 100;
    private static final int LAST_YEAR = 2000;
    private static final long MULTIPLIER = 48271;
    private static final long MODULUS = 2147483647;

    private final Wall wall = new Wall();
    private final Pane[] panes = new Pane[PIECES];
    private final Sheet[] sheets = new Sheet[SHEETS];
    private final Frame frame = new Frame();
    private int sheetCount = 0;
    /** How many cells of sheets the cuts and stopgaps told of have taken. */
    private int cellsTaken = 0;
    private int z = 1;
    private boolean isSoldered = false;
    private int upYear = 0;
    private int now = 0;
    private int mends = 0;
    /** Rows that calls use again, so that no call makes any. */
    private final Shape shape = new Shape();
    private final Shape near = new Shape();
    private final Shape far = new Shape();
    private final int[] waits = new int[PIECES];
    private final YearSet unlike = new YearSet();

    public LeadlightHall() {
        for (int piece = 0; piece < PIECES; piece++) {
            panes[piece] = new Pane();
        }
        for (int sheet = 0; sheet < SHEETS; sheet++) {
            sheets[sheet] = new Sheet();
        }
    }

    // The opening and its pieces.

    public int open(int left, int low, int right, int high, boolean isOpen)
            throws IllegalArgumentException, UnsupportedOperationException {
        requireCells(left, low, right, high);
        if (isSoldered || isGlassWithin(left, low, right, high)) {
            throw new UnsupportedOperationException("there is glass, or the window is up");
        }
        int changed = 0;
        for (int y = low; y <= high; y++) {
            for (int x = left; x <= right; x++) {
                boolean wasOpen = wall.at(x, y) != STONE;
                if (wasOpen != isOpen) {
                    wall.put(x, y, isOpen ? BARE : STONE);
                    changed++;
                }
            }
        }
        return changed;
    }

    public int lay(int piece, int left, int low, int right, int high)
            throws IndexOutOfBoundsException, IllegalArgumentException, UnsupportedOperationException {
        requirePiece(piece);
        requireCells(left, low, right, high);
        if (isSoldered || panes[piece].hasGlass() || isGlassWithin(left, low, right, high)) {
            throw new UnsupportedOperationException("there is glass, or the window is up");
        }
        if (!isOpenWithin(left, low, right, high)) {
            throw new UnsupportedOperationException("no cell is open");
        }
        for (int y = low; y <= high; y++) {
            for (int x = left; x <= right; x++) {
                if (wall.at(x, y) != STONE) {
                    wall.put(x, y, piece);
                }
            }
        }
        return wall.cellsOf(piece);
    }

    public int pieceAt(int x, int y) throws IllegalArgumentException {
        requireCell(x, y);
        return wall.at(x, y);
    }

    public int size(int piece) throws IndexOutOfBoundsException {
        requirePiece(piece);
        return wall.cellsOf(piece);
    }

    public int corners(int piece) throws IndexOutOfBoundsException {
        requirePiece(piece);
        wall.shapeInto(piece, shape);
        return shape.innerCorners();
    }

    public int point(int piece) throws IndexOutOfBoundsException {
        requirePiece(piece);
        wall.shapeInto(piece, shape);
        return shape.longestNarrow();
    }

    public char hinders(int piece) throws IndexOutOfBoundsException {
        requirePiece(piece);
        wall.shapeInto(piece, shape);
        return shape.hindrance();
    }

    public int split(int piece)
            throws IndexOutOfBoundsException, UnsupportedOperationException, IllegalStateException {
        requirePiece(piece);
        if (isSoldered || panes[piece].hasGlass()) {
            throw new UnsupportedOperationException("there is glass, or the window is up");
        }
        wall.shapeInto(piece, shape);
        int lead = shape.bestLead(near, far);
        if (lead < 0) {
            throw new UnsupportedOperationException("no lead can be");
        }
        int other = lowestWithoutCells();
        if (other < 0) {
            throw new IllegalStateException("all numbers have cells");
        }
        shape.partBy(lead, near, far);
        wall.putShape(far, other);
        panes[other].wantLike(panes[piece]);
        return other;
    }

    public int lead() {
        return wall.leadedSides();
    }

    public int joints() {
        return wall.meetingPoints();
    }

    // Glass and paint.

    public int sheet(int colour, int width, int height, char streaks)
            throws IllegalArgumentException, IllegalStateException {
        if (!isColour(colour) || !isWithin(width, 1, SIDE) || !isWithin(height, 1, SIDE) || !isDirection(streaks)) {
            throw new IllegalArgumentException("there is no such sheet");
        }
        if (sheetCount >= SHEETS) {
            throw new IllegalStateException("there are 8 sheets");
        }
        sheets[sheetCount].become(colour, width, height, streaks);
        sheetCount++;
        return sheetCount - 1;
    }

    public int free(int sheet) throws IndexOutOfBoundsException {
        requireSheet(sheet);
        return sheets[sheet].freeCells();
    }

    public boolean want(int piece, int colour, char streaks)
            throws IndexOutOfBoundsException, IllegalArgumentException, UnsupportedOperationException {
        requirePiece(piece);
        if (!isColour(colour) || streaks != ANY && !isDirection(streaks)) {
            throw new IllegalArgumentException("there is no such colour, or no such streaks");
        }
        Pane pane = panes[piece];
        if (isSoldered || pane.hasGlass()) {
            throw new UnsupportedOperationException("there is glass, or the window is up");
        }
        boolean isSame = pane.wantedColour == colour && pane.wantedStreaks == streaks;
        pane.wantedColour = colour;
        pane.wantedStreaks = streaks;
        return isSame;
    }

    public boolean cut(int sheet, int piece, boolean isTurned)
            throws IndexOutOfBoundsException, IllegalArgumentException, UnsupportedOperationException {
        requireSheet(sheet);
        requirePiece(piece);
        Pane pane = panes[piece];
        Sheet source = sheets[sheet];
        wall.shapeInto(piece, shape);
        if (pane.hasGlass() || !pane.wants(source, isTurned) || shape.hindrance() != NOTHING) {
            throw new IllegalArgumentException("it can't be cut out of this sheet");
        }
        shape.moveToCorner();
        Shape laid = shape;
        if (isTurned) {
            shape.turnInto(near);
            laid = near;
        }
        int place = source.placeFor(laid);
        if (isSoldered || place < 0) {
            throw new UnsupportedOperationException("it is nowhere free, or the window is up");
        }
        take(source, laid, place);
        z = (int) (z * MULTIPLIER % MODULUS);
        if (z % 100 < 10 * laid.innerCorners()) {
            return false;
        }
        pane.glaze(CUT, source.colour, now);
        return true;
    }

    public char glass(int piece) throws IndexOutOfBoundsException {
        requirePiece(piece);
        return panes[piece].state;
    }

    public int colour(int piece) throws IndexOutOfBoundsException, NoSuchElementException {
        requirePiece(piece);
        requireGlass(piece);
        return panes[piece].colour;
    }

    public int paint(int piece, char kind)
            throws IndexOutOfBoundsException, IllegalArgumentException, UnsupportedOperationException,
            IllegalStateException {
        requirePiece(piece);
        int number = Paint.numberOf(kind);
        if (number < 0) {
            throw new IllegalArgumentException("there is no such kind");
        }
        Pane pane = panes[piece];
        if (isSoldered || pane.state != CUT || number == Paint.STAIN && pane.paint.hasStain()) {
            throw new UnsupportedOperationException("it can't have this layer");
        }
        if (pane.paint.keptLayers() >= MOST_LAYERS) {
            throw new IllegalStateException("it has 5 layers");
        }
        pane.paint.add(number);
        return pane.paint.keptLayers();
    }

    public int fire(int pieces, int degrees) throws IllegalArgumentException, UnsupportedOperationException {
        if (pieces == 0 || Integer.bitCount(pieces) > MOST_FIRED || pieces >>> PIECES != 0
                || !isWithin(degrees, 500, 700)) {
            throw new IllegalArgumentException("there is no such firing");
        }
        if (isSoldered || (pieces & ~panesThatAre(CUT)) != 0) {
            throw new UnsupportedOperationException("one has no glass, or is leaded, or the window is up");
        }
        int fixed = 0;
        for (int piece = 0; piece < PIECES; piece++) {
            if ((pieces >> piece & 1) == 1) {
                fixed += panes[piece].paint.heat(degrees);
            }
        }
        return fixed;
    }

    public int layers(int piece, char how) throws IndexOutOfBoundsException, IllegalArgumentException {
        requirePiece(piece);
        if (how != 'r' && how != 'f') {
            throw new IllegalArgumentException("there is no such letter");
        }
        Paint paint = panes[piece].paint;
        return how == 'r' ? paint.rawLayers() : paint.fixedLayers();
    }

    public int seed(int z) throws IllegalArgumentException {
        if (!isWithin(z, 1, 2147483646)) {
            throw new IllegalArgumentException("there is no such z");
        }
        int before = this.z;
        this.z = z;
        return before;
    }

    // Leading.

    public boolean isOrderly() {
        if (wall.cellsOf(BARE) > 0) {
            return false;
        }
        wall.waitsInto(waits);
        int left = wall.piecesWithCells();
        int led = 0;
        for (int round = 0; round < PIECES && left != 0; round++) {
            int piece = lowestFreeOf(left, led);
            if (piece < 0) {
                return false;
            }
            led |= 1 << piece;
            left &= ~led;
        }
        return left == 0;
    }

    public int next() throws NoSuchElementException {
        return requireNext();
    }

    public int comes() throws NoSuchElementException {
        int piece = requireNext();
        panes[piece].state = LEADED;
        return piece;
    }

    public int solder() throws UnsupportedOperationException {
        int pieces = wall.piecesWithCells();
        if (isSoldered || pieces == 0 || pieces != panesThatAre(LEADED) || wall.cellsOf(BARE) > 0) {
            throw new UnsupportedOperationException("it can't be soldered");
        }
        isSoldered = true;
        upYear = now;
        return wall.meetingPoints();
    }

    public boolean isUp() {
        return isSoldered;
    }

    public boolean bar(int row, boolean is) throws IllegalArgumentException {
        if (!isWithin(row, 1, SIDE - 1)) {
            throw new IllegalArgumentException("there can be no bar");
        }
        boolean was = frame.hasBar(row);
        frame.setBar(row, is);
        return was;
    }

    public int profile(int profile) throws IllegalArgumentException, UnsupportedOperationException {
        if (!isWithin(profile, 1, 4)) {
            throw new IllegalArgumentException("there is no such profile");
        }
        if (isSoldered) {
            throw new UnsupportedOperationException("the window is up");
        }
        int before = frame.profile;
        frame.profile = profile;
        return before;
    }

    public int wind(int wind) throws IllegalArgumentException {
        if (!isWithin(wind, 0, 100)) {
            throw new IllegalArgumentException("there is no such wind");
        }
        int before = frame.wind;
        frame.wind = wind;
        return before;
    }

    public int bears() {
        return frame.mostBorne(yearsUp());
    }

    public boolean stands() {
        return frame.mostBorne(yearsUp()) <= MOST_BORNE;
    }

    // The years.

    public int years(int years) throws IllegalArgumentException, IllegalStateException {
        if (!isWithin(years, 1, 500)) {
            throw new IllegalArgumentException("so many years can't go by");
        }
        if (now + years > LAST_YEAR) {
            throw new IllegalStateException("it would be above 2000");
        }
        now += years;
        return now;
    }

    public int looks(int x, int y, int hour) throws IllegalArgumentException {
        requireCell(x, y);
        if (!isWithin(hour, 0, 23)) {
            throw new IllegalArgumentException("there is no such hour");
        }
        int level = Math.max(0, 100 - 14 * Math.abs(hour - 12));
        int own = brightness(x, y, level);
        int brighter = 0;
        brighter += brightness(x - 1, y, level) >= own + 30 ? 1 : 0;
        brighter += brightness(x + 1, y, level) >= own + 30 ? 1 : 0;
        brighter += brightness(x, y - 1, level) >= own + 30 ? 1 : 0;
        brighter += brightness(x, y + 1, level) >= own + 30 ? 1 : 0;
        return Math.max(0, own - 5 * brighter);
    }

    public boolean hit(int x, int y) throws IllegalArgumentException, UnsupportedOperationException {
        requireCell(x, y);
        if (!isSoldered) {
            throw new UnsupportedOperationException("the window is not up");
        }
        int piece = wall.at(x, y);
        if (!isPiece(piece) || panes[piece].state != LEADED) {
            return false;
        }
        panes[piece].state = BROKEN;
        return true;
    }

    public int mend(int piece) throws IndexOutOfBoundsException, UnsupportedOperationException {
        requirePiece(piece);
        Pane pane = panes[piece];
        if (pane.state != BROKEN) {
            throw new UnsupportedOperationException("it is not broken");
        }
        pane.state = LEADED;
        pane.leadYears.add(now);
        mends++;
        return mends;
    }

    public int stopgap(int piece, int sheet) throws IndexOutOfBoundsException, UnsupportedOperationException {
        requireSheet(sheet);
        requirePiece(piece);
        Pane pane = panes[piece];
        Sheet source = sheets[sheet];
        if (pane.state != BROKEN || now - pane.year >= OLD) {
            throw new UnsupportedOperationException("it is not broken, or too old");
        }
        wall.shapeInto(piece, shape);
        shape.moveToCorner();
        int place = source.placeFor(shape);
        if (place < 0) {
            throw new UnsupportedOperationException("it is nowhere free");
        }
        take(source, shape, place);
        pane.glaze(LEADED, source.colour, now);
        mends++;
        return mends;
    }

    public int year(int piece) throws IndexOutOfBoundsException, NoSuchElementException {
        requirePiece(piece);
        requireGlass(piece);
        return panes[piece].year;
    }

    public int hands() {
        unlike.clear();
        for (int piece = 0; piece < PIECES; piece++) {
            Pane pane = panes[piece];
            if (pane.hasGlass()) {
                unlike.add(pane.year);
                unlike.addAll(pane.leadYears);
            }
        }
        return unlike.count();
    }

    public int fits(int piece) throws IndexOutOfBoundsException, NoSuchElementException {
        requirePiece(piece);
        requireGlass(piece);
        wall.shapeInto(piece, shape);
        shape.moveToCorner();
        int colour = panes[piece].colour;
        int like = 0;
        for (int other = 0; other < PIECES; other++) {
            if (other != piece && panes[other].lacksGlass() && panes[other].wantedColour == colour) {
                wall.shapeInto(other, near);
                near.moveToCorner();
                like += near.isLike(shape) ? 1 : 0;
            }
        }
        return like;
    }

    public int price() {
        int price = 3 * wall.leadedSides() + 7 * mends;
        for (int piece = 0; piece < PIECES; piece++) {
            Pane pane = panes[piece];
            price += pane.hasGlass() ? 5 : 0;
            price += 2 * pane.paint.fixedLayers();
        }
        return price;
    }

    // Sums.

    public long checksum() {
        long sum = 7;
        for (int y = 0; y < SIDE; y++) {
            for (int x = 0; x < SIDE; x++) {
                sum = 31 * sum + wall.at(x, y);
            }
        }
        for (int piece = 0; piece < PIECES; piece++) {
            sum = 31 * sum + panes[piece].state;
            sum = 31 * sum + panes[piece].paint.fixedLayers();
        }
        return sum;
    }

    public float litShare() throws NoSuchElementException {
        int open = SIDE * SIDE - wall.cellsOf(STONE);
        if (open == 0) {
            throw new NoSuchElementException("no cell is open");
        }
        int lit = 0;
        for (int piece = 0; piece < PIECES; piece++) {
            lit += panes[piece].hasGlass() ? wall.cellsOf(piece) : 0;
        }
        return (float) lit / (float) open;
    }

    public double meanCells() throws NoSuchElementException {
        int pieces = Integer.bitCount(wall.piecesWithCells());
        if (pieces == 0) {
            throw new NoSuchElementException("there are no pieces");
        }
        int cells = SIDE * SIDE - wall.cellsOf(STONE) - wall.cellsOf(BARE);
        return (double) cells / (double) pieces;
    }

    public boolean isSound() {
        int used = 0;
        for (int sheet = 0; sheet < sheetCount; sheet++) {
            used += sheets[sheet].usedCells();
        }
        if (used != cellsTaken) {
            return false;
        }
        wall.waitsInto(waits);
        int held = panesThatAre(LEADED) | panesThatAre(BROKEN);
        for (int piece = 0; piece < PIECES; piece++) {
            Pane pane = panes[piece];
            if (pane.hasGlass() && !isCuttable(piece)) {
                return false;
            }
            if (pane.state == LEADED && ((waits[piece] & ~held) != 0 || pane.paint.rawLayers() > 0)) {
                return false;
            }
        }
        return true;
    }

    private static boolean isWithin(int number, int least, int most) {
        return number >= least && number <= most;
    }

    private static boolean isInside(int x, int y) {
        return x >= 0 && x < SIDE && y >= 0 && y < SIDE;
    }

    private static boolean isPiece(int number) {
        return isWithin(number, 0, PIECES - 1);
    }

    private static boolean isColour(int colour) {
        return colour >= 0 && colour < COLOURS;
    }

    private static boolean isDirection(char streaks) {
        return streaks == 'h' || streaks == 'v';
    }

    private static void requirePiece(int piece) {
        if (!isPiece(piece)) {
            throw new IndexOutOfBoundsException("there is no such number of a piece");
        }
    }

    private void requireSheet(int sheet) {
        if (sheet < 0 || sheet >= sheetCount) {
            throw new IndexOutOfBoundsException("there is no such sheet");
        }
    }

    private static void requireCell(int x, int y) {
        if (!isInside(x, y)) {
            throw new IllegalArgumentException("there is no such cell");
        }
    }

    private static void requireCells(int left, int low, int right, int high) {
        if (!isInside(left, low) || !isInside(right, high) || right < left || high < low) {
            throw new IllegalArgumentException("there are no such cells");
        }
    }

    private void requireGlass(int piece) {
        if (!isPiece(piece) || !panes[piece].hasGlass()) {
            throw new NoSuchElementException("it has no glass");
        }
    }

    private int yearsUp() {
        return isSoldered ? now - upYear : 0;
    }

    private int requireNext() {
        int painted = 0;
        for (int piece = 0; piece < PIECES; piece++) {
            painted |= panes[piece].paint.rawLayers() > 0 ? 1 << piece : 0;
        }
        wall.waitsInto(waits);
        int piece = lowestFreeOf(panesThatAre(CUT) & ~painted, panesThatAre(LEADED));
        if (piece < 0) {
            throw new NoSuchElementException("none can come");
        }
        return piece;
    }

    /** Asks for waits to be of this wall. */
    private int lowestFreeOf(int pieces, int led) {
        for (int piece = 0; piece < PIECES; piece++) {
            if ((pieces >> piece & 1) == 1 && (waits[piece] & ~led) == 0) {
                return piece;
            }
        }
        return -1;
    }

    private int panesThatAre(char state) {
        int found = 0;
        for (int piece = 0; piece < PIECES; piece++) {
            found |= panes[piece].state == state ? 1 << piece : 0;
        }
        return found;
    }

    private int lowestWithoutCells() {
        int pieces = wall.piecesWithCells();
        for (int piece = 0; piece < PIECES; piece++) {
            if ((pieces >> piece & 1) == 0) {
                return piece;
            }
        }
        return -1;
    }

    private boolean isGlassWithin(int left, int low, int right, int high) {
        for (int y = low; y <= high; y++) {
            for (int x = left; x <= right; x++) {
                int piece = wall.at(x, y);
                if (isPiece(piece) && panes[piece].hasGlass()) {
                    return true;
                }
            }
        }
        return false;
    }

    private boolean isOpenWithin(int left, int low, int right, int high) {
        for (int y = low; y <= high; y++) {
            for (int x = left; x <= right; x++) {
                if (wall.at(x, y) != STONE) {
                    return true;
                }
            }
        }
        return false;
    }

    private void take(Sheet source, Shape laid, int place) {
        source.use(laid, place);
        cellsTaken += laid.cellCount();
    }

    private boolean isCuttable(int piece) {
        wall.shapeInto(piece, shape);
        return shape.isWhole() && shape.innerCorners() <= MOST_CORNERS;
    }

    /** How bright a cell is before its neighbours take from it. */
    private int brightness(int x, int y, int level) {
        int piece = wall.at(x, y);
        if (piece == STONE) {
            return 0;
        }
        if (!isPiece(piece) || panes[piece].lacksGlass()) {
            return level;
        }
        int colour = panes[piece].colour;
        int clearness = colour == 0 ? 100 : 90 - 8 * colour;
        return Math.max(0, level * clearness / 100 - 10 * panes[piece].paint.fixedLayers());
    }

    /** The 12 by 12 cells: each is stone, bare, or of a piece. */
    private static final class Wall {
        private final int[] cells = new int[SIDE * SIDE];

        Wall() {
            for (int cell = 0; cell < SIDE * SIDE; cell++) {
                cells[cell] = STONE;
            }
        }

        int at(int x, int y) {
            return isInside(x, y) ? cells[y * SIDE + x] : STONE;
        }

        void put(int x, int y, int what) {
            if (isInside(x, y)) {
                cells[y * SIDE + x] = what;
            }
        }

        void putShape(Shape shape, int piece) {
            for (int y = 0; y < SIDE; y++) {
                for (int x = 0; x < SIDE; x++) {
                    if (shape.has(x, y)) {
                        put(x, y, piece);
                    }
                }
            }
        }

        int cellsOf(int what) {
            int count = 0;
            for (int cell = 0; cell < SIDE * SIDE; cell++) {
                count += cells[cell] == what ? 1 : 0;
            }
            return count;
        }

        int piecesWithCells() {
            int pieces = 0;
            for (int cell = 0; cell < SIDE * SIDE; cell++) {
                pieces |= cells[cell] >= 0 ? 1 << cells[cell] : 0;
            }
            return pieces;
        }

        void shapeInto(int piece, Shape shape) {
            shape.clear();
            for (int y = 0; y < SIDE; y++) {
                for (int x = 0; x < SIDE; x++) {
                    if (at(x, y) == piece) {
                        shape.add(x, y);
                    }
                }
            }
        }

        int leadedSides() {
            int sides = 0;
            for (int y = 0; y <= SIDE; y++) {
                for (int x = 0; x <= SIDE; x++) {
                    sides += leadBetween(at(x - 1, y), at(x, y));
                    sides += leadBetween(at(x, y - 1), at(x, y));
                }
            }
            return sides;
        }

        int meetingPoints() {
            int points = 0;
            for (int y = 0; y <= SIDE; y++) {
                for (int x = 0; x <= SIDE; x++) {
                    int sides = leadBetween(at(x - 1, y - 1), at(x, y - 1))
                            + leadBetween(at(x - 1, y), at(x, y))
                            + leadBetween(at(x - 1, y - 1), at(x - 1, y))
                            + leadBetween(at(x, y - 1), at(x, y));
                    points += sides >= 3 ? 1 : 0;
                }
            }
            return points;
        }

        /** For each piece, as bits, what is directly to the left of, or below it. */
        void waitsInto(int[] waits) {
            for (int piece = 0; piece < waits.length; piece++) {
                waits[piece] = 0;
            }
            for (int y = 0; y < SIDE; y++) {
                for (int x = 0; x < SIDE; x++) {
                    int piece = at(x, y);
                    if (piece >= 0 && piece < waits.length) {
                        waits[piece] |= bitOf(at(x - 1, y), piece) | bitOf(at(x, y - 1), piece);
                    }
                }
            }
        }

        private static int bitOf(int what, int own) {
            if (what == STONE || what == own) {
                return 0;
            }
            return what == BARE ? BARE_BIT : 1 << what;
        }

        private static int leadBetween(int one, int other) {
            return one != other && (one >= 0 || other >= 0) ? 1 : 0;
        }
    }

    /** The cells of a piece, or of a part of one, a bit for each cell of a row. */
    private static final class Shape {
        private final int[] rows = new int[SIDE];
        private final int[] reached = new int[SIDE];

        void clear() {
            for (int y = 0; y < SIDE; y++) {
                rows[y] = 0;
            }
        }

        void add(int x, int y) {
            if (isInside(x, y)) {
                rows[y] |= 1 << x;
            }
        }

        boolean has(int x, int y) {
            return isInside(x, y) && (rows[y] >> x & 1) == 1;
        }

        int row(int y) {
            return y >= 0 && y < SIDE ? rows[y] : 0;
        }

        int cellCount() {
            int count = 0;
            for (int y = 0; y < SIDE; y++) {
                count += Integer.bitCount(rows[y]);
            }
            return count;
        }

        char hindrance() {
            if (cellCount() == 0) {
                return 'e';
            }
            if (!isWhole()) {
                return 'w';
            }
            if (innerCorners() > MOST_CORNERS) {
                return 'c';
            }
            return longestNarrow() > MOST_POINT ? 'p' : NOTHING;
        }

        boolean isWhole() {
            boolean isStarted = false;
            for (int y = 0; y < SIDE; y++) {
                reached[y] = isStarted ? 0 : rows[y] & -rows[y];
                isStarted = isStarted || rows[y] != 0;
            }
            boolean isGrowing = true;
            for (int round = 0; round < SIDE * SIDE && isGrowing; round++) {
                isGrowing = grow();
            }
            for (int y = 0; y < SIDE; y++) {
                if (reached[y] != rows[y]) {
                    return false;
                }
            }
            return true;
        }

        private boolean grow() {
            boolean isGrowing = false;
            for (int y = 0; y < SIDE; y++) {
                int below = y > 0 ? reached[y - 1] : 0;
                int above = y < SIDE - 1 ? reached[y + 1] : 0;
                int grown = rows[y] & (reached[y] | reached[y] << 1 | reached[y] >> 1 | below | above);
                isGrowing = isGrowing || grown != reached[y];
                reached[y] = grown;
            }
            return isGrowing;
        }

        int innerCorners() {
            int corners = 0;
            for (int y = 1; y < SIDE; y++) {
                for (int x = 1; x < SIDE; x++) {
                    int around = rows[y - 1] >> x - 1 & 3 | (rows[y] >> x - 1 & 3) << 2;
                    corners += Integer.bitCount(around) == 3 ? 1 : 0;
                }
            }
            return corners;
        }

        int longestNarrow() {
            int longest = 0;
            for (int line = 0; line < SIDE; line++) {
                longest = Math.max(longest, longestRun(narrowInRow(line)));
                longest = Math.max(longest, longestRun(narrowInColumn(line)));
            }
            return longest;
        }

        private int narrowInRow(int y) {
            return row(y) & ~row(y - 1) & ~row(y + 1);
        }

        private int narrowInColumn(int x) {
            int narrow = 0;
            for (int y = 0; y < SIDE; y++) {
                narrow |= has(x, y) && !has(x - 1, y) && !has(x + 1, y) ? 1 << y : 0;
            }
            return narrow;
        }

        private static int longestRun(int bits) {
            int longest = 0;
            int run = 0;
            for (int bit = 0; bit < SIDE; bit++) {
                run = (bits >> bit & 1) == 1 ? run + 1 : 0;
                longest = Math.max(longest, run);
            }
            return longest;
        }

        /** A lead is its column if it is upright, 12 more than its row if it is level. */
        int bestLead(Shape near, Shape far) {
            int best = -1;
            int least = SIDE + 1;
            for (int lead = 1; lead < 2 * SIDE; lead++) {
                partBy(lead, near, far);
                if (near.hindrance() == NOTHING && far.hindrance() == NOTHING && touchesOver(lead) < least) {
                    best = lead;
                    least = touchesOver(lead);
                }
            }
            return best;
        }

        void partBy(int lead, Shape near, Shape far) {
            for (int y = 0; y < SIDE; y++) {
                int kept = lead < SIDE ? rows[y] & (1 << lead) - 1 : y < lead - SIDE ? rows[y] : 0;
                near.rows[y] = kept;
                far.rows[y] = rows[y] & ~kept;
            }
        }

        private int touchesOver(int lead) {
            if (lead >= SIDE) {
                return Integer.bitCount(row(lead - SIDE - 1) & row(lead - SIDE));
            }
            int touches = 0;
            for (int y = 0; y < SIDE; y++) {
                touches += has(lead - 1, y) && has(lead, y) ? 1 : 0;
            }
            return touches;
        }

        void moveToCorner() {
            int columns = columnsUsed();
            int left = 0;
            while (left < SIDE && (columns >> left & 1) == 0) {
                left++;
            }
            int low = 0;
            while (low < SIDE && rows[low] == 0) {
                low++;
            }
            for (int y = 0; y < SIDE; y++) {
                rows[y] = row(y + low) >> left;
            }
        }

        void turnInto(Shape turned) {
            turned.clear();
            int height = height();
            for (int y = 0; y < height; y++) {
                for (int x = 0; x < SIDE; x++) {
                    if (has(x, y)) {
                        turned.add(height - 1 - y, x);
                    }
                }
            }
        }

        int height() {
            int height = SIDE;
            while (height > 0 && rows[height - 1] == 0) {
                height--;
            }
            return height;
        }

        int width() {
            int columns = columnsUsed();
            int width = SIDE;
            while (width > 0 && (columns >> width - 1 & 1) == 0) {
                width--;
            }
            return width;
        }

        private int columnsUsed() {
            int columns = 0;
            for (int y = 0; y < SIDE; y++) {
                columns |= rows[y];
            }
            return columns;
        }

        boolean isLike(Shape other) {
            for (int y = 0; y < SIDE; y++) {
                if (rows[y] != other.rows[y]) {
                    return false;
                }
            }
            return true;
        }
    }

    /** A sheet of glass, a bit for each cell of a row that is used. */
    private static final class Sheet {
        private int colour = 0;
        private int width = 0;
        private int height = 0;
        private char streaks = 'h';
        private final int[] used = new int[SIDE];

        void become(int colour, int width, int height, char streaks) {
            this.colour = colour;
            this.width = width;
            this.height = height;
            this.streaks = streaks;
        }

        int usedCells() {
            int count = 0;
            for (int y = 0; y < SIDE; y++) {
                count += Integer.bitCount(used[y]);
            }
            return count;
        }

        int freeCells() {
            return width * height - usedCells();
        }

        char streaksOf(boolean isTurned) {
            if (!isTurned) {
                return streaks;
            }
            return streaks == 'h' ? 'v' : 'h';
        }

        /** Answers 12 times the row plus the column, -1 if it is nowhere free. */
        int placeFor(Shape shape) {
            int highest = height - shape.height();
            int rightmost = width - shape.width();
            for (int low = 0; low <= highest; low++) {
                for (int left = 0; left <= rightmost; left++) {
                    if (isFreeAt(shape, left, low)) {
                        return low * SIDE + left;
                    }
                }
            }
            return -1;
        }

        private boolean isFreeAt(Shape shape, int left, int low) {
            for (int y = low; y < height; y++) {
                if ((used[y] & shape.row(y - low) << left) != 0) {
                    return false;
                }
            }
            return true;
        }

        void use(Shape shape, int place) {
            int low = place / SIDE;
            int left = place % SIDE;
            for (int y = low; y < height; y++) {
                used[y] |= shape.row(y - low) << left;
            }
        }
    }

    /** What goes with the number of a piece: what it wants, and its glass. */
    private static final class Pane {
        private int wantedColour = 0;
        private char wantedStreaks = ANY;
        private char state = NO_GLASS;
        private int colour = 0;
        private int year = 0;
        private final Paint paint = new Paint();
        private final YearSet leadYears = new YearSet();

        boolean hasGlass() {
            return state != NO_GLASS;
        }

        boolean lacksGlass() {
            return state == NO_GLASS || state == BROKEN;
        }

        void wantLike(Pane other) {
            wantedColour = other.wantedColour;
            wantedStreaks = other.wantedStreaks;
        }

        boolean wants(Sheet sheet, boolean isTurned) {
            return sheet.colour == wantedColour
                    && (wantedStreaks == ANY || wantedStreaks == sheet.streaksOf(isTurned));
        }

        void glaze(char state, int colour, int year) {
            this.state = state;
            this.colour = colour;
            this.year = year;
            paint.clear();
            leadYears.clear();
        }
    }

    /** The layers on a glass, counted by kind, as nothing asks which lies on which. */
    private static final class Paint {
        private static final int KINDS = 4;
        private static final int STAIN = 2;
        private static final int REACH = 15;
        private static final char[] LETTERS = {'t', 'm', 's', 'e'};
        private static final int[] HEATS = {660, 620, 580, 540};
        private final int[] raw = new int[KINDS];
        private final int[] fixed = new int[KINDS];

        static int numberOf(char letter) {
            for (int kind = 0; kind < KINDS; kind++) {
                if (LETTERS[kind] == letter) {
                    return kind;
                }
            }
            return -1;
        }

        void clear() {
            for (int kind = 0; kind < KINDS; kind++) {
                raw[kind] = 0;
                fixed[kind] = 0;
            }
        }

        boolean hasStain() {
            return raw[STAIN] + fixed[STAIN] > 0;
        }

        void add(int kind) {
            if (kind >= 0 && kind < KINDS) {
                raw[kind]++;
            }
        }

        int keptLayers() {
            return rawLayers() + fixedLayers();
        }

        int rawLayers() {
            int count = 0;
            for (int kind = 0; kind < KINDS; kind++) {
                count += raw[kind];
            }
            return count;
        }

        int fixedLayers() {
            int count = 0;
            for (int kind = 0; kind < KINDS; kind++) {
                count += fixed[kind];
            }
            return count;
        }

        int heat(int degrees) {
            int count = 0;
            for (int kind = 0; kind < KINDS; kind++) {
                int above = degrees - HEATS[kind];
                if (above > REACH) {
                    raw[kind] = 0;
                    fixed[kind] = 0;
                } else if (above >= -REACH) {
                    count += raw[kind];
                    fixed[kind] += raw[kind];
                    raw[kind] = 0;
                }
            }
            return count;
        }
    }

    /** What the window holds the wind with: bars, as bits, and the lead's profile. */
    private static final class Frame {
        private int bars = 0;
        private int profile = 1;
        private int wind = 0;

        boolean hasBar(int row) {
            return (bars >> row & 1) == 1;
        }

        void setBar(int row, boolean is) {
            bars = is ? bars | 1 << row : bars & ~(1 << row);
        }

        int mostBorne(int yearsUp) {
            int most = 0;
            int support = 0;
            for (int row = 1; row <= SIDE; row++) {
                if (row == SIDE || hasBar(row)) {
                    int rows = row - support;
                    most = Math.max(most, wind * rows * rows / (4 * Math.max(1, profile)));
                    support = row;
                }
            }
            return most + yearsUp / 10;
        }
    }

    /** Years from 0 to 2000, a bit for each. */
    private static final class YearSet {
        private static final int WORDS = LAST_YEAR / 64 + 1;
        private final long[] words = new long[WORDS];

        void clear() {
            for (int word = 0; word < WORDS; word++) {
                words[word] = 0;
            }
        }

        void add(int year) {
            if (isWithin(year, 0, LAST_YEAR)) {
                words[year / 64] |= 1L << year % 64;
            }
        }

        void addAll(YearSet other) {
            for (int word = 0; word < WORDS; word++) {
                words[word] |= other.words[word];
            }
        }

        int count() {
            int count = 0;
            for (int word = 0; word < WORDS; word++) {
                count += Long.bitCount(words[word]);
            }
            return count;
        }
    }
}
