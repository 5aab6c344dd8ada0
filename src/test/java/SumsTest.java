import java.util.NoSuchElementException;

/** Promises 41 to 44, and the first example of the document. */
public final class SumsTest {
    private static final Class<NoSuchElementException> NONE = NoSuchElementException.class;

    public static void main(String[] args) {
        checksum();
        litShare();
        meanCells();
        isSound();
        example();
        Check.end();
    }

    private static long sumOf(LeadlightHall hall) {
        long sum = 7;
        for (int y = 0; y < 12; y++) {
            for (int x = 0; x < 12; x++) {
                sum = 31 * sum + hall.pieceAt(x, y);
            }
        }
        for (int piece = 0; piece < 30; piece++) {
            sum = 31 * sum + hall.glass(piece);
            sum = 31 * sum + hall.layers(piece, 'f');
        }
        return sum;
    }

    private static void checksum() {
        LeadlightHall hall = new LeadlightHall();
        Check.due("checksum of stone", hall.checksum(), sumOf(hall));
        hall.open(0, 0, 5, 0, true);
        Check.due("checksum of bare", hall.checksum(), sumOf(hall));
        LeadlightHall up = LeadingTest.upWindow();
        Check.due("checksum as it is up", up.checksum(), sumOf(up));
        up.hit(0, 0);
        Check.due("checksum of a broken one", up.checksum(), sumOf(up));
        LeadlightHall raw = LeadingTest.cutAll("01");
        long before = raw.checksum();
        raw.paint(0, 't');
        Check.due("raw layers are not in it", raw.checksum(), before);
        raw.fire(1, 660);
        Check.due("fixed layers are in it", raw.checksum() != before, true);
    }

    private static void litShare() {
        LeadlightHall hall = new LeadlightHall();
        Check.fails("litShare of stone", NONE, hall::litShare);
        hall.open(0, 0, 2, 0, true);
        Check.due("litShare of bare", hall.litShare(), 0.0f);
        hall.lay(0, 0, 0, 0, 0);
        Check.due("litShare without glass", hall.litShare(), 0.0f);
        hall.sheet(0, 12, 12, 'h');
        hall.cut(0, 0, false);
        Check.due("litShare of a third", hall.litShare(), 1.0f / 3.0f);
        hall.lay(1, 1, 0, 1, 0);
        hall.cut(0, 1, false);
        Check.due("litShare of two thirds", hall.litShare(), 2.0f / 3.0f);
        LeadlightHall up = LeadingTest.upWindow();
        Check.due("litShare of all", up.litShare(), 1.0f);
        up.hit(0, 0);
        Check.due("litShare, broken", up.litShare(), 1.0f);
    }

    private static void meanCells() {
        LeadlightHall hall = new LeadlightHall();
        Check.fails("meanCells of stone", NONE, hall::meanCells);
        hall.open(0, 0, 3, 0, true);
        Check.fails("meanCells of bare", NONE, hall::meanCells);
        hall.lay(0, 0, 0, 2, 0);
        Check.due("meanCells of one", hall.meanCells(), 3.0);
        hall.lay(29, 2, 0, 2, 0);
        Check.due("meanCells of two", hall.meanCells(), 1.5);
        hall.lay(7, 3, 0, 3, 0);
        Check.due("meanCells of three", hall.meanCells(), 4.0 / 3.0);
    }

    private static void isSound() {
        Check.due("sound stone", new LeadlightHall().isSound(), true);
        LeadlightHall hall = LeadingTest.cutAll("#0#1", "####");
        hall.comes();
        hall.paint(1, 't');
        Check.due("sound", hall.isSound(), true);
        hall.open(0, 1, 0, 1, true);
        Check.due("bare to the left of leaded is not sound", hall.isSound(), false);
        hall.lay(2, 0, 1, 0, 1);
        Check.due("no glass to the left of leaded is not sound", hall.isSound(), false);
        hall.cut(0, 2, false);
        Check.due("cut glass to the left of leaded is not sound", hall.isSound(), false);
        hall.comes();
        Check.due("leaded glass to the left is sound", hall.isSound(), true);
        hall.open(1, 0, 1, 0, true);
        Check.due("bare below leaded is not sound", hall.isSound(), false);
        hall.open(1, 0, 1, 0, false);
        Check.due("stone below leaded is sound", hall.isSound(), true);
        hall.open(1, 2, 2, 2, true);
        hall.open(2, 1, 2, 1, true);
        Check.due("bare above, and to the right of leaded is sound", hall.isSound(), true);
        LeadlightHall up = LeadingTest.upWindow();
        Check.due("sound as it is up", up.isSound(), true);
        up.hit(0, 0);
        Check.due("broken below leaded is sound", up.isSound(), true);
        up.stopgap(0, 0);
        Check.due("a stopgap is sound", up.isSound(), true);
    }

    private static void example() {
        LeadlightHall hall = new LeadlightHall();
        Check.due("open", hall.open(0, 0, 3, 3, true), 16);
        Check.due("lay", hall.lay(0, 0, 0, 1, 3), 8);
        Check.due("lay", hall.lay(1, 2, 0, 3, 3), 8);
        Check.due("pieceAt", hall.pieceAt(2, 3), 1);
        Check.due("size", hall.size(1), 8);
        Check.due("corners", hall.corners(0), 0);
        Check.due("point", hall.point(0), 0);
        Check.due("hinders", hall.hinders(0), '-');
        Check.due("split", hall.split(1), 2);
        Check.due("lead", hall.lead(), 22);
        Check.due("joints", hall.joints(), 4);
        Check.due("sheet", hall.sheet(0, 12, 6, 'h'), 0);
        Check.due("want", hall.want(2, 0, 'h'), false);
        Check.due("seed", hall.seed(5), 1);
        Check.due("cut", hall.cut(0, 0, false), true);
        Check.due("cut", hall.cut(0, 1, false), true);
        Check.due("cut", hall.cut(0, 2, false), true);
        Check.due("free", hall.free(0), 56);
        Check.due("glass", hall.glass(2), 'c');
        Check.due("colour", hall.colour(0), 0);
        Check.due("paint", hall.paint(0, 't'), 1);
        Check.due("paint", hall.paint(0, 's'), 2);
        Check.due("layers", hall.layers(0, 'r'), 2);
        Check.due("fire", hall.fire(1, 660), 1);
        Check.due("layers", hall.layers(0, 'f'), 1);
        Check.due("paint", hall.paint(0, 'e'), 2);
        Check.due("fire", hall.fire(1, 540), 1);
        Check.due("isOrderly", hall.isOrderly(), true);
        Check.due("next", hall.next(), 0);
        Check.due("comes", hall.comes(), 0);
        Check.due("comes", hall.comes(), 1);
        Check.due("comes", hall.comes(), 2);
        Check.due("profile", hall.profile(2), 1);
        Check.due("solder", hall.solder(), 4);
        Check.due("isUp", hall.isUp(), true);
        Check.due("bar", hall.bar(2, true), false);
        Check.due("wind", hall.wind(60), 0);
        Check.due("bears", hall.bears(), 750);
        Check.due("stands", hall.stands(), false);
        Check.due("years", hall.years(30), 30);
        Check.due("looks", hall.looks(0, 0, 12), 80);
        Check.due("looks", hall.looks(2, 0, 10), 72);
        Check.due("hit", hall.hit(2, 0), true);
        Check.due("fits", hall.fits(2), 0);
        Check.due("mend", hall.mend(1), 1);
        Check.due("year", hall.year(1), 0);
        Check.due("hands", hall.hands(), 2);
        Check.due("price", hall.price(), 92);
        Check.due("checksum", hall.checksum(), -2266826206604820730L);
        Check.due("litShare", hall.litShare(), 1.0f);
        Check.due("meanCells", hall.meanCells(), 5.333333333333333);
        Check.due("isSound", hall.isSound(), true);
    }
}
