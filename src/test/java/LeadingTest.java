import java.util.NoSuchElementException;

/** Promises 22 to 31: the order of leading, soldering, bars and wind. */
public final class LeadingTest {
    private static final Class<IllegalArgumentException> ARGUMENT = IllegalArgumentException.class;
    private static final Class<UnsupportedOperationException> UNSUPPORTED = UnsupportedOperationException.class;
    private static final Class<NoSuchElementException> NONE = NoSuchElementException.class;

    public static void main(String[] args) {
        isOrderly();
        next();
        nextWaits();
        comes();
        solder();
        isUp();
        bar();
        profile();
        wind();
        bears();
        stands();
        Check.end();
    }

    /** Two pieces of 2 by 1, up at the year 0, the lower one with a fixed trace, and a sheet of colour 0. */
    static LeadlightHall upWindow() {
        LeadlightHall hall = OpeningTest.wall("11", "00");
        hall.sheet(0, 12, 12, 'h');
        hall.cut(0, 0, false);
        hall.cut(0, 1, false);
        hall.paint(0, 't');
        hall.fire(1, 660);
        hall.comes();
        hall.comes();
        hall.solder();
        return hall;
    }

    static LeadlightHall cutAll(String... rows) {
        LeadlightHall hall = OpeningTest.wall(rows);
        hall.sheet(0, 12, 12, 'h');
        hall.seed(5);
        for (int piece = 0; piece < 10; piece++) {
            for (int again = 0; again < 20 && hall.size(piece) > 0 && hall.glass(piece) == '-'; again++) {
                hall.seed(5 + again);
                hall.cut(0, piece, false);
            }
        }
        return hall;
    }

    private static void isOrderly() {
        Check.due("orderly stone", new LeadlightHall().isOrderly(), true);
        Check.due("orderly one", OpeningTest.wall("0").isOrderly(), true);
        Check.due("orderly row", OpeningTest.wall("210").isOrderly(), true);
        Check.due("orderly column", OpeningTest.wall("0", "1", "2").isOrderly(), true);
        Check.due("bare is not orderly", OpeningTest.wall("0.").isOrderly(), false);
        Check.due("bare alone is not orderly", OpeningTest.wall(".").isOrderly(), false);
        Check.due("a ring round one is not", OpeningTest.wall("000", "010", "000").isOrderly(), false);
        Check.due("a ring round stone is", OpeningTest.wall("000", "0#0", "000").isOrderly(), true);
        Check.due("a hook is not", OpeningTest.wall("01", "10").isOrderly(), false);
        Check.due("an L below is", OpeningTest.wall("01", "00").isOrderly(), true);
        Check.due("an L above is", OpeningTest.wall("11", "01").isOrderly(), true);
        Check.due("two that wait for each other are not", OpeningTest.wall("100", "110", "#00").isOrderly(), false);
        Check.due("an L to the left and below is not", OpeningTest.wall("11", "10", "##").isOrderly(), false);
        Check.due("three round a stone are", OpeningTest.wall("#12", "#02", "00#").isOrderly(), true);
        Check.due("a windmill is", OpeningTest.wall("112", "0#2", "033").isOrderly(), true);
        Check.due("a windmill the other way is", OpeningTest.wall("122", "1#3", "003").isOrderly(), true);
        Check.due("stone at the left", OpeningTest.wall("#0", "0#").isOrderly(), true);
        LeadlightHall raw = cutAll("01");
        raw.paint(0, 't');
        Check.due("orderly by its pieces, whatever is painted", raw.isOrderly(), true);
        LeadlightHall led = cutAll("01");
        led.comes();
        Check.due("orderly, as one is leaded", led.isOrderly(), true);
        Check.due("orderly, as it is up", upWindow().isOrderly(), true);
    }

    private static void next() {
        LeadlightHall hall = OpeningTest.wall("10");
        Check.fails("next without glass", NONE, hall::next);
        hall.sheet(0, 12, 12, 'h');
        hall.cut(0, 0, false);
        Check.fails("next as the left one has none", NONE, hall::next);
        hall.cut(0, 1, false);
        Check.due("next is the left one", hall.next(), 1);
        Check.due("next does nothing", hall.next(), 1);
        Check.due("next does nothing", hall.glass(1), 'c');
        hall.comes();
        Check.due("next is the right one", hall.next(), 0);
        hall.comes();
        Check.fails("next of none", NONE, hall::next);
        Check.fails("next of stone", NONE, () -> new LeadlightHall().next());
        Check.fails("next as it is up", NONE, () -> upWindow().next());
        LeadlightHall broken = upWindow();
        broken.hit(0, 0);
        Check.fails("next of a broken one", NONE, broken::next);
        Check.due("next of two is the lowest", cutAll("1#0").next(), 0);
    }

    private static void nextWaits() {
        Check.due("next waits for below", cutAll("0", "1").next(), 1);
        Check.due("next does not wait for above", cutAll("1", "0").next(), 0);
        Check.due("next does not wait for right", cutAll("01").next(), 0);
        Check.fails("next waits for bare at the left", NONE, () -> cutAll(".0").next());
        Check.fails("next waits for bare below", NONE, () -> cutAll("0", ".").next());
        Check.due("next does not wait for bare above", cutAll(".", "0").next(), 0);
        Check.due("next does not wait for bare at the right", cutAll("0.").next(), 0);
        Check.due("next does not wait for stone", cutAll("#0", "##").next(), 0);
        Check.due("next does not wait for itself", cutAll("00", "0#").next(), 0);
        LeadlightHall hall = cutAll("01");
        hall.paint(0, 't');
        Check.fails("next waits for paint", NONE, hall::next);
        hall.fire(1, 660);
        Check.due("next after firing", hall.next(), 0);
        hall.paint(0, 'e');
        hall.fire(1, 600);
        Check.due("next after a loss", hall.next(), 0);
    }

    private static void comes() {
        LeadlightHall hall = cutAll("01", "32");
        Check.due("comes", hall.comes(), 3);
        Check.due("comes: leaded", hall.glass(3), 'l');
        Check.due("comes", hall.comes(), 0);
        Check.due("comes", hall.comes(), 2);
        Check.due("comes", hall.comes(), 1);
        Check.fails("comes of none", NONE, hall::comes);
        Check.fails("comes of stone", NONE, () -> new LeadlightHall().comes());
        Check.fails("comes as it is up", NONE, () -> upWindow().comes());
        LeadlightHall later = cutAll("0");
        later.comes();
        later.open(1, 0, 1, 0, true);
        later.lay(1, 1, 0, 1, 0);
        Check.fails("comes without glass", NONE, later::comes);
        later.cut(0, 1, false);
        Check.due("comes later", later.comes(), 1);
    }

    private static void solder() {
        LeadlightHall none = new LeadlightHall();
        Check.fails("solder stone", UNSUPPORTED, none::solder);
        Check.fails("solder bare", UNSUPPORTED, () -> OpeningTest.wall("..").solder());
        LeadlightHall hall = cutAll("01");
        Check.fails("solder cut ones", UNSUPPORTED, hall::solder);
        hall.comes();
        Check.fails("solder when one is not leaded", UNSUPPORTED, hall::solder);
        hall.comes();
        hall.open(2, 0, 2, 0, true);
        Check.fails("solder when one is bare", UNSUPPORTED, hall::solder);
        hall.lay(2, 2, 0, 2, 0);
        Check.fails("solder when one has no glass", UNSUPPORTED, hall::solder);
        Check.due("refused, it is not up", hall.isUp(), false);
        hall.open(2, 0, 2, 0, false);
        Check.due("solder", hall.solder(), 2);
        Check.fails("solder again", UNSUPPORTED, hall::solder);
        LeadlightHall four = cutAll("01", "23");
        for (int piece = 0; piece < 4; piece++) {
            four.comes();
        }
        Check.due("solder four", four.solder(), 5);
    }

    private static void isUp() {
        LeadlightHall hall = cutAll("0");
        Check.due("isUp", hall.isUp(), false);
        hall.comes();
        Check.due("isUp before it is soldered", hall.isUp(), false);
        hall.solder();
        Check.due("isUp", hall.isUp(), true);
        hall.hit(0, 0);
        Check.due("isUp when broken", hall.isUp(), true);
    }

    private static void bar() {
        LeadlightHall hall = new LeadlightHall();
        Check.due("bar", hall.bar(1, true), false);
        Check.due("bar again", hall.bar(1, true), true);
        Check.due("bar 11", hall.bar(11, true), false);
        Check.due("no bar 11", hall.bar(11, false), true);
        Check.due("no bar 11", hall.bar(11, false), false);
        Check.due("bar 1 stays", hall.bar(1, false), true);
        Check.fails("bar(0)", ARGUMENT, () -> hall.bar(0, true));
        Check.fails("bar(12)", ARGUMENT, () -> hall.bar(12, true));
        Check.fails("bar(33)", ARGUMENT, () -> hall.bar(33, true));
        Check.fails("bar(-1)", ARGUMENT, () -> hall.bar(-1, false));
        LeadlightHall up = upWindow();
        Check.due("bar as it is up", up.bar(2, true), false);
        Check.due("bar as it is up", up.bar(2, true), true);
    }

    private static void profile() {
        LeadlightHall hall = new LeadlightHall();
        Check.due("profile at first", hall.profile(4), 1);
        Check.due("profile", hall.profile(2), 4);
        Check.fails("profile(0)", ARGUMENT, () -> hall.profile(0));
        Check.fails("profile(5)", ARGUMENT, () -> hall.profile(5));
        Check.due("refused profiles change nothing", hall.profile(1), 2);
        LeadlightHall up = upWindow();
        Check.fails("profile as it is up", UNSUPPORTED, () -> up.profile(2));
        Check.fails("profile(5) as it is up", ARGUMENT, () -> up.profile(5));
    }

    private static void wind() {
        LeadlightHall hall = new LeadlightHall();
        Check.due("wind at first", hall.wind(100), 0);
        Check.due("wind", hall.wind(0), 100);
        Check.fails("wind(-1)", ARGUMENT, () -> hall.wind(-1));
        Check.fails("wind(101)", ARGUMENT, () -> hall.wind(101));
        Check.due("refused winds change nothing", hall.wind(7), 0);
        Check.due("wind as it is up", upWindow().wind(50), 0);
    }

    private static void bears() {
        LeadlightHall hall = new LeadlightHall();
        Check.due("bears without wind", hall.bears(), 0);
        hall.wind(100);
        Check.due("bears 12 rows", hall.bears(), 3600);
        hall.profile(4);
        Check.due("bears with a profile", hall.bears(), 900);
        hall.bar(1, true);
        Check.due("bears 11 rows", hall.bears(), 756);
        hall.bar(11, true);
        Check.due("bears 10 rows", hall.bears(), 625);
        hall.bar(4, true);
        Check.due("bears 7 rows", hall.bears(), 306);
        hall.bar(1, false);
        hall.wind(7);
        hall.profile(3);
        Check.due("bears, cut", hall.bears(), 28);
        for (int row = 1; row < 12; row++) {
            hall.bar(row, true);
        }
        hall.wind(11);
        Check.due("bears one row, cut to nothing", hall.bears(), 0);
        hall.wind(12);
        Check.due("bears one row", hall.bears(), 1);
        hall.years(500);
        Check.due("years before it is up do not count", hall.bears(), 1);
        LeadlightHall up = cutAll("0");
        up.years(15);
        up.comes();
        up.solder();
        up.wind(1);
        Check.due("bears at first", up.bears(), 36);
        up.years(9);
        Check.due("bears after 9", up.bears(), 36);
        up.years(1);
        Check.due("bears after 10", up.bears(), 37);
        up.years(10);
        Check.due("bears after 20", up.bears(), 38);
    }

    private static void stands() {
        LeadlightHall hall = new LeadlightHall();
        Check.due("stands", hall.stands(), true);
        hall.wind(3);
        Check.due("stands at 108", hall.stands(), false);
        hall.wind(100);
        hall.bar(2, true);
        hall.bar(4, true);
        hall.bar(6, true);
        hall.bar(8, true);
        hall.bar(10, true);
        Check.due("stands at 100", hall.stands(), true);
        Check.due("bears 100", hall.bears(), 100);
        hall.profile(2);
        hall.bar(4, false);
        Check.due("stands at 200", hall.stands(), false);
        hall.bar(5, true);
        hall.wind(90);
        Check.due("bears 101", hall.bears(), 101);
        Check.due("stands at 101", hall.stands(), false);
        LeadlightHall up = upWindow();
        up.years(500);
        up.years(500);
        Check.due("stands by 1000 years", up.stands(), true);
        up.years(9);
        Check.due("stands by 1009 years", up.stands(), true);
        up.years(1);
        Check.due("stands no more by 1010", up.stands(), false);
        LeadlightHall late = cutAll("0");
        late.years(500);
        late.years(500);
        late.comes();
        late.solder();
        late.years(500);
        Check.due("stands by 500 years after 1000", late.stands(), true);
        Check.due("bears by 500 years after 1000", late.bears(), 50);
    }
}
