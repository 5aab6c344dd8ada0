import java.util.Random;

/** Promises 3 to 11, 15, 22, 23 and 39, on many windows, against the document's words told most slowly. */
public final class PlainGeometryTest {
    private static final int SIDE = 12;

    public static void main(String[] args) {
        for (int seed = 0; seed < 400; seed++) {
            Random random = new Random(seed);
            LeadlightHall hall = new LeadlightHall();
            int most = build(hall, random);
            compare(hall, most);
            split(hall, random);
            cut(hall, random, most);
            compare(hall, 30);
        }
        Check.end();
    }

    private static int build(LeadlightHall hall, Random random) {
        int width = 2 + random.nextInt(11);
        int height = 2 + random.nextInt(11);
        int left = random.nextInt(SIDE - width + 1);
        int low = random.nextInt(SIDE - height + 1);
        hall.open(left, low, left + width - 1, low + height - 1, true);
        int most = 1 + random.nextInt(8);
        for (int call = random.nextInt(30); call >= 0; call--) {
            int x = left + random.nextInt(width);
            int y = low + random.nextInt(height);
            int right = Math.min(SIDE - 1, x + random.nextInt(5));
            int high = Math.min(SIDE - 1, y + random.nextInt(5));
            if (random.nextInt(9) == 0) {
                hall.open(x, y, x, y, false);
            } else if (random.nextInt(9) == 0) {
                hall.open(x, y, right, high, true);
            } else if (hall.pieceAt(x, y) != -2) {
                int piece = random.nextInt(most);
                int due = hall.size(piece);
                for (int cell = 0; cell < SIDE * SIDE; cell++) {
                    boolean isIn = cell % SIDE >= x && cell % SIDE <= right && cell / SIDE >= y && cell / SIDE <= high;
                    int was = hall.pieceAt(cell % SIDE, cell / SIDE);
                    due += isIn && was != -2 && was != piece ? 1 : 0;
                }
                Check.due("lay", hall.lay(piece, x, y, right, high), due);
            }
        }
        return most;
    }

    private static int at(LeadlightHall hall, int x, int y) {
        return x < 0 || y < 0 || x >= SIDE || y >= SIDE ? -2 : hall.pieceAt(x, y);
    }

    private static boolean[][] cellsOf(LeadlightHall hall, int piece) {
        boolean[][] cells = new boolean[SIDE][SIDE];
        for (int y = 0; y < SIDE; y++) {
            for (int x = 0; x < SIDE; x++) {
                cells[x][y] = at(hall, x, y) == piece;
            }
        }
        return cells;
    }

    private static boolean is(boolean[][] cells, int x, int y) {
        return x >= 0 && y >= 0 && x < SIDE && y < SIDE && cells[x][y];
    }

    private static int count(boolean[][] cells) {
        int count = 0;
        for (boolean[] column : cells) {
            for (boolean cell : column) {
                count += cell ? 1 : 0;
            }
        }
        return count;
    }

    private static int fill(boolean[][] cells, boolean[][] seen, int x, int y) {
        if (!is(cells, x, y) || seen[x][y]) {
            return 0;
        }
        seen[x][y] = true;
        return 1 + fill(cells, seen, x + 1, y) + fill(cells, seen, x - 1, y)
                + fill(cells, seen, x, y + 1) + fill(cells, seen, x, y - 1);
    }

    private static boolean isWhole(boolean[][] cells) {
        for (int y = 0; y < SIDE; y++) {
            for (int x = 0; x < SIDE; x++) {
                if (cells[x][y]) {
                    return fill(cells, new boolean[SIDE][SIDE], x, y) == count(cells);
                }
            }
        }
        return true;
    }

    private static int corners(boolean[][] cells) {
        int corners = 0;
        for (int y = 0; y <= SIDE; y++) {
            for (int x = 0; x <= SIDE; x++) {
                int own = 0;
                own += is(cells, x, y) ? 1 : 0;
                own += is(cells, x - 1, y) ? 1 : 0;
                own += is(cells, x, y - 1) ? 1 : 0;
                own += is(cells, x - 1, y - 1) ? 1 : 0;
                corners += own == 3 ? 1 : 0;
            }
        }
        return corners;
    }

    /** Tries each row of each length at each cell, both ways. */
    private static int point(boolean[][] cells) {
        int longest = 0;
        for (int y = 0; y < SIDE; y++) {
            for (int x = 0; x < SIDE; x++) {
                for (int length = 1; length <= SIDE; length++) {
                    boolean isLevel = true;
                    boolean isUpright = true;
                    for (int step = 0; step < length; step++) {
                        isLevel &= is(cells, x + step, y) && !is(cells, x + step, y + 1) && !is(cells, x + step, y - 1);
                        isUpright &= is(cells, x, y + step) && !is(cells, x + 1, y + step)
                                && !is(cells, x - 1, y + step);
                    }
                    longest = isLevel || isUpright ? Math.max(longest, length) : longest;
                }
            }
        }
        return longest;
    }

    private static char hinders(boolean[][] cells) {
        if (count(cells) == 0) {
            return 'e';
        }
        return !isWhole(cells) ? 'w' : corners(cells) > 2 ? 'c' : point(cells) > 4 ? 'p' : '-';
    }

    /** Whether the side to the left of, or below, a cell has lead. */
    private static boolean isLead(LeadlightHall hall, int x, int y, boolean isLeft) {
        int own = at(hall, x, y);
        int other = isLeft ? at(hall, x - 1, y) : at(hall, x, y - 1);
        return own >= 0 && own != other || other >= 0 && own != other;
    }

    private static void compare(LeadlightHall hall, int most) {
        for (int piece = 0; piece < most; piece++) {
            boolean[][] cells = cellsOf(hall, piece);
            Check.due("size", hall.size(piece), count(cells));
            Check.due("corners", hall.corners(piece), corners(cells));
            Check.due("point", hall.point(piece), point(cells));
            Check.due("hinders", hall.hinders(piece), hinders(cells));
        }
        int lead = 0;
        int joints = 0;
        for (int y = 0; y <= SIDE; y++) {
            for (int x = 0; x <= SIDE; x++) {
                int upwards = isLead(hall, x, y, true) ? 1 : 0;
                int right = isLead(hall, x, y, false) ? 1 : 0;
                int downwards = isLead(hall, x, y - 1, true) ? 1 : 0;
                int left = isLead(hall, x - 1, y, false) ? 1 : 0;
                lead += upwards + right;
                joints += upwards + right + downwards + left >= 3 ? 1 : 0;
            }
        }
        Check.due("lead", hall.lead(), lead);
        Check.due("joints", hall.joints(), joints);
        Check.due("isOrderly", hall.isOrderly(), isOrderly(hall));
    }

    /** Tries whether pieces can be led until none is left. */
    private static boolean isOrderly(LeadlightHall hall) {
        boolean[] led = new boolean[30];
        for (int round = 0; round < 30; round++) {
            for (int piece = 0; piece < 30; piece++) {
                led[piece] |= isFree(hall, piece, led);
            }
        }
        for (int cell = 0; cell < SIDE * SIDE; cell++) {
            int of = at(hall, cell % SIDE, cell / SIDE);
            if (of == -1 || of >= 0 && !led[of]) {
                return false;
            }
        }
        return true;
    }

    private static boolean isFree(LeadlightHall hall, int piece, boolean[] led) {
        for (int cell = 0; cell < SIDE * SIDE; cell++) {
            int x = cell % SIDE;
            int y = cell / SIDE;
            if (at(hall, x, y) == piece) {
                for (int beside : new int[] {at(hall, x - 1, y), at(hall, x, y - 1)}) {
                    if (beside == -1 || beside >= 0 && beside != piece && !led[beside]) {
                        return false;
                    }
                }
            }
        }
        return true;
    }

    private static boolean[][] part(boolean[][] cells, boolean isUpright, int line, boolean isFar) {
        boolean[][] part = new boolean[SIDE][SIDE];
        for (int y = 0; y < SIDE; y++) {
            for (int x = 0; x < SIDE; x++) {
                part[x][y] = cells[x][y] && (isUpright ? x >= line : y >= line) == isFar;
            }
        }
        return part;
    }

    private static void split(LeadlightHall hall, Random random) {
        for (int piece = 0; piece < 8; piece++) {
            boolean[][] cells = cellsOf(hall, piece);
            boolean[][] best = null;
            int least = 1000;
            for (boolean isUpright : new boolean[] {true, false}) {
                for (int line = 1; line < SIDE; line++) {
                    boolean[][] far = part(cells, isUpright, line, true);
                    int touch = 0;
                    for (int step = 0; step < SIDE; step++) {
                        touch += isUpright && cells[line - 1][step] && cells[line][step] ? 1 : 0;
                        touch += !isUpright && cells[step][line - 1] && cells[step][line] ? 1 : 0;
                    }
                    if (touch < least && hinders(far) == '-'
                            && hinders(part(cells, isUpright, line, false)) == '-') {
                        best = far;
                        least = touch;
                    }
                }
            }
            int now = piece;
            if (best == null) {
                Check.fails("split", UnsupportedOperationException.class, () -> hall.split(now));
            } else if (random.nextBoolean()) {
                int other = 0;
                while (hall.size(other) > 0) {
                    other++;
                }
                Check.due("split", hall.split(piece), other);
                for (int cell = 0; cell < SIDE * SIDE; cell++) {
                    int x = cell % SIDE;
                    int y = cell / SIDE;
                    if (cells[x][y]) {
                        Check.due("split: pieceAt", hall.pieceAt(x, y), best[x][y] ? other : piece);
                    }
                }
            }
        }
    }

    private static void cut(LeadlightHall hall, Random random, int most) {
        boolean[][] used = new boolean[SIDE][SIDE];
        int width = 3 + random.nextInt(10);
        int height = 3 + random.nextInt(10);
        hall.sheet(0, width, height, 'h');
        int free = width * height;
        for (int call = 0; call < 40; call++) {
            int piece = random.nextInt(30);
            boolean isTurned = random.nextBoolean();
            boolean[][] cells = cellsOf(hall, piece);
            if (hall.glass(piece) != '-' || hinders(cells) != '-') {
                Check.fails("cut", IllegalArgumentException.class, () -> hall.cut(0, piece, isTurned));
            } else if (place(used, width, height, cells, isTurned)) {
                hall.cut(0, piece, isTurned);
                free -= count(cells);
                fits(hall, piece);
            } else {
                Check.fails("cut", UnsupportedOperationException.class, () -> hall.cut(0, piece, isTurned));
            }
            Check.due("free", hall.free(0), free);
        }
    }

    /** Lays a shape wherever it may lie, also with its corner outside, lowest first. */
    private static boolean place(boolean[][] used, int width, int height, boolean[][] cells, boolean isTurned) {
        for (int low = -2 * SIDE; low < 2 * SIDE; low++) {
            for (int left = -2 * SIDE; left < 2 * SIDE; left++) {
                if (lies(used, width, height, cells, isTurned, left, low, false)) {
                    return lies(used, width, height, cells, isTurned, left, low, true);
                }
            }
        }
        return false;
    }

    private static boolean lies(boolean[][] used, int width, int height, boolean[][] cells, boolean isTurned,
            int left, int low, boolean isUsed) {
        for (int y = 0; y < SIDE; y++) {
            for (int x = 0; x < SIDE; x++) {
                if (cells[x][y]) {
                    int column = isTurned ? left - y : left + x;
                    int row = isTurned ? low + x : low + y;
                    if (column < 0 || row < 0 || column >= width || row >= height || !isUsed && used[column][row]) {
                        return false;
                    }
                    used[column][row] |= isUsed;
                }
            }
        }
        return true;
    }

    private static void fits(LeadlightHall hall, int piece) {
        if (hall.glass(piece) == '-') {
            return;
        }
        int due = 0;
        for (int other = 0; other < 30; other++) {
            if (other != piece && hall.glass(other) == '-' && hall.size(other) == hall.size(piece)) {
                due += isMoved(cellsOf(hall, piece), cellsOf(hall, other)) ? 1 : 0;
            }
        }
        Check.due("fits", hall.fits(piece), due);
    }

    private static boolean isMoved(boolean[][] one, boolean[][] other) {
        for (int right = -SIDE; right < SIDE; right++) {
            for (int up = -SIDE; up < SIDE; up++) {
                boolean isSame = true;
                for (int cell = 0; cell < SIDE * SIDE && isSame; cell++) {
                    isSame = !one[cell % SIDE][cell / SIDE] || is(other, cell % SIDE + right, cell / SIDE + up);
                }
                if (isSame) {
                    return true;
                }
            }
        }
        return false;
    }
}
