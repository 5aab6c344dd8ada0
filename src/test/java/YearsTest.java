import java.util.NoSuchElementException;

/** Promises 32 to 40: years, light, hits, mending and prices. */
public final class YearsTest {
    private static final Class<IllegalArgumentException> ARGUMENT = IllegalArgumentException.class;
    private static final Class<IndexOutOfBoundsException> INDEX = IndexOutOfBoundsException.class;
    private static final Class<UnsupportedOperationException> UNSUPPORTED = UnsupportedOperationException.class;
    private static final Class<IllegalStateException> STATE = IllegalStateException.class;
    private static final Class<NoSuchElementException> NONE = NoSuchElementException.class;

    public static void main(String[] args) {
        years();
        looksByTheHour();
        looksByColour();
        looksByNeighbours();
        looksWhenBroken();
        hit();
        mend();
        stopgap();
        stopgapPlaces();
        stopgapFarOff();
        year();
        hands();
        fits();
        price();
        Check.end();
    }

    private static void years() {
        LeadlightHall hall = new LeadlightHall();
        Check.due("years", hall.years(1), 1);
        Check.due("years", hall.years(500), 501);
        Check.fails("years(0)", ARGUMENT, () -> hall.years(0));
        Check.fails("years(-1)", ARGUMENT, () -> hall.years(-1));
        Check.fails("years(501)", ARGUMENT, () -> hall.years(501));
        Check.fails("years(most)", ARGUMENT, () -> hall.years(Integer.MAX_VALUE));
        hall.years(500);
        hall.years(500);
        Check.fails("years above 2000", STATE, () -> hall.years(500));
        Check.fails("years(501) above 2000", ARGUMENT, () -> hall.years(501));
        Check.due("years to 2000", hall.years(499), 2000);
        Check.fails("years above 2000", STATE, () -> hall.years(1));
    }

    private static void looksByTheHour() {
        LeadlightHall hall = OpeningTest.wall(".0");
        int[] due = {0, 0, 0, 0, 0, 2, 16, 30, 44, 58, 72, 86, 100, 86, 72, 58, 44, 30, 16, 2, 0, 0, 0, 0};
        for (int hour = 0; hour < 24; hour++) {
            Check.due("looks bare at " + hour, hall.looks(0, 0, hour), due[hour]);
            Check.due("looks without glass at " + hour, hall.looks(1, 0, hour), due[hour]);
            Check.due("looks stone at " + hour, hall.looks(1, 1, hour), 0);
        }
        int[][] bad = {{-1, 0, 12}, {12, 0, 12}, {0, -1, 12}, {0, 12, 12}, {0, 0, -1}, {0, 0, 24},
            {0, 0, Integer.MIN_VALUE}, {0, 0, Integer.MAX_VALUE}};
        for (int[] at : bad) {
            Check.fails("looks outside", ARGUMENT, () -> hall.looks(at[0], at[1], at[2]));
        }
    }

    private static void looksByColour() {
        int[] clearness = {100, 82, 74, 66, 58, 50, 42, 34, 26, 18};
        for (int colour = 0; colour < 10; colour++) {
            LeadlightHall hall = OpeningTest.wall("0");
            hall.want(0, colour, '-');
            hall.sheet(colour, 1, 1, 'h');
            hall.cut(0, 0, false);
            for (int hour = 5; hour < 12; hour++) {
                int level = 100 - 14 * (12 - hour);
                Check.due("looks in colour " + colour, hall.looks(0, 0, hour), level * clearness[colour] / 100);
            }
            hall.paint(0, 't');
            Check.due("raw layers take nothing", hall.looks(0, 0, 12), clearness[colour]);
            for (int layer = 1; layer <= 5; layer++) {
                hall.fire(1, 660);
                Check.due("fixed layers take 10", hall.looks(0, 0, 12), Math.max(0, clearness[colour] - 10 * layer));
                if (layer < 5) {
                    hall.paint(0, 't');
                }
            }
        }
    }

    private static void looksByNeighbours() {
        LeadlightHall hall = OpeningTest.wall("#.#", ".0.", "#.#");
        hall.want(0, 1, '-');
        hall.sheet(1, 1, 1, 'h');
        hall.cut(0, 0, false);
        Check.due("18 more takes nothing", hall.looks(1, 1, 12), 82);
        hall.paint(0, 't');
        hall.fire(1, 660);
        Check.due("28 more takes nothing", hall.looks(1, 1, 12), 72);
        hall.paint(0, 't');
        hall.fire(1, 660);
        Check.due("38 more takes 5 each", hall.looks(1, 1, 12), 62 - 20);
        hall.open(0, 1, 0, 1, false);
        Check.due("from above, below, and right", hall.looks(1, 1, 12), 62 - 15);
        hall.open(1, 2, 1, 2, false);
        Check.due("from below, and right", hall.looks(1, 1, 12), 62 - 10);
        hall.open(2, 1, 2, 1, false);
        Check.due("from below", hall.looks(1, 1, 12), 62 - 5);
        hall.open(1, 0, 1, 0, false);
        Check.due("from none", hall.looks(1, 1, 12), 62);
        LeadlightHall dark = OpeningTest.wall("#.#", ".0.", "#.#");
        dark.want(0, 9, '-');
        dark.sheet(9, 1, 1, 'h');
        dark.cut(0, 0, false);
        Check.due("at least 0", dark.looks(1, 1, 12), 0);
        Check.due("at least 0", dark.looks(1, 1, 8), 0);
        looksAtTheLimit();
        Check.due("a corner takes nothing", OpeningTest.wall(".#", "#.").looks(1, 1, 12), 0);
        LeadlightHall stone = OpeningTest.wall(".");
        Check.due("stone beside light", stone.looks(1, 0, 12), 0);
        Check.due("light beside stone", stone.looks(0, 0, 12), 100);
    }

    /** Colour 5 leaves 29 of 58, 36 of 72, 43 of 86; colour 0 with three layers 70 of 100. */
    private static void looksAtTheLimit() {
        int[][] beside = {{0, 1}, {2, 1}, {1, 0}, {1, 2}};
        for (int[] at : beside) {
            LeadlightHall clear = OpeningTest.wall("###", "#0#", "###");
            clear.open(at[0], at[1], at[0], at[1], true);
            clear.sheet(0, 1, 1, 'h');
            clear.cut(0, 0, false);
            for (int layer = 0; layer < 3; layer++) {
                clear.paint(0, 't');
            }
            clear.fire(1, 660);
            Check.due("30 more takes 5", clear.looks(1, 1, 12), 65);
            LeadlightHall red = OpeningTest.wall("###", "#0#", "###");
            red.open(at[0], at[1], at[0], at[1], true);
            red.want(0, 5, '-');
            red.sheet(5, 1, 1, 'h');
            red.cut(0, 0, false);
            Check.due("29 more takes nothing", red.looks(1, 1, 9), 29);
            Check.due("36 more takes 5", red.looks(1, 1, 10), 31);
        }
    }

    private static void looksWhenBroken() {
        LeadlightHall hall = LeadingTest.cutAll("0");
        LeadlightHall red = OpeningTest.wall("01");
        red.want(0, 6, '-');
        red.sheet(6, 1, 1, 'h');
        red.sheet(0, 1, 1, 'h');
        red.cut(0, 0, false);
        red.cut(1, 1, false);
        red.comes();
        red.comes();
        red.solder();
        Check.due("looks red", red.looks(0, 0, 12), 37);
        red.hit(0, 0);
        Check.due("looks broken", red.looks(0, 0, 12), 100);
        red.mend(0);
        Check.due("looks mended", red.looks(0, 0, 12), 37);
        Check.due("looks cut, not leaded", hall.looks(0, 0, 12), 100);
    }

    private static void hit() {
        LeadlightHall cut = LeadingTest.cutAll("0");
        Check.fails("hit before it is up", UNSUPPORTED, () -> cut.hit(0, 0));
        Check.fails("hit outside before it is up", ARGUMENT, () -> cut.hit(12, 0));
        cut.comes();
        Check.fails("hit before it is soldered", UNSUPPORTED, () -> cut.hit(0, 0));
        LeadlightHall hall = LeadingTest.upWindow();
        Check.due("hit stone", hall.hit(5, 5), false);
        Check.due("hit", hall.hit(1, 0), true);
        Check.due("hit the same piece", hall.hit(0, 0), false);
        Check.due("the other is whole", hall.glass(1), 'l');
        Check.due("hit the other", hall.hit(0, 1), true);
        hall.mend(0);
        Check.due("hit what was mended", hall.hit(0, 0), true);
        int[][] bad = {{-1, 0}, {0, -1}, {12, 0}, {0, 12}, {Integer.MAX_VALUE, Integer.MIN_VALUE}};
        for (int[] at : bad) {
            Check.fails("hit outside", ARGUMENT, () -> hall.hit(at[0], at[1]));
        }
    }

    private static void mend() {
        LeadlightHall hall = LeadingTest.upWindow();
        Check.fails("mend what is not broken", UNSUPPORTED, () -> hall.mend(0));
        Check.fails("mend none", UNSUPPORTED, () -> hall.mend(20));
        Check.fails("mend(-1)", INDEX, () -> hall.mend(-1));
        Check.fails("mend(30)", INDEX, () -> hall.mend(30));
        hall.hit(0, 0);
        hall.hit(0, 1);
        Check.due("mend", hall.mend(0), 1);
        Check.due("mend: leaded", hall.glass(0), 'l');
        Check.fails("mend again", UNSUPPORTED, () -> hall.mend(0));
        Check.due("mend the other", hall.mend(1), 2);
        hall.hit(0, 0);
        hall.years(500);
        Check.due("mend an old one", hall.mend(0), 3);
        Check.due("mended glass is of its year", hall.year(0), 0);
    }

    private static void stopgap() {
        LeadlightHall hall = LeadingTest.upWindow();
        hall.sheet(5, 2, 1, 'v');
        Check.fails("stopgap in what is not broken", UNSUPPORTED, () -> hall.stopgap(0, 0));
        Check.fails("stopgap(-1, 0)", INDEX, () -> hall.stopgap(-1, 0));
        Check.fails("stopgap(30, 0)", INDEX, () -> hall.stopgap(30, 0));
        Check.fails("stopgap(0, -1)", INDEX, () -> hall.stopgap(0, -1));
        Check.fails("stopgap(0, 2)", INDEX, () -> hall.stopgap(0, 2));
        Check.fails("stopgap in none", UNSUPPORTED, () -> hall.stopgap(20, 0));
        hall.hit(0, 0);
        hall.hit(0, 1);
        hall.seed(123);
        hall.years(99);
        Check.due("stopgap of whatever colour and streaks", hall.stopgap(0, 1), 1);
        Check.due("stopgap leaves z", hall.seed(123), 123);
        Check.due("stopgap: leaded", hall.glass(0), 'l');
        Check.due("stopgap: colour", hall.colour(0), 5);
        Check.due("stopgap: year", hall.year(0), 99);
        Check.due("stopgap: free", hall.free(1), 0);
        Check.due("stopgap: no layers", hall.layers(0, 'f'), 0);
        Check.fails("stopgap, nowhere free", UNSUPPORTED, () -> hall.stopgap(1, 1));
        hall.years(1);
        Check.fails("stopgap for what is 100 years old", UNSUPPORTED, () -> hall.stopgap(1, 0));
        Check.due("refused stopgaps use nothing", hall.free(0), 140);
        hall.mend(1);
        hall.hit(0, 1);
        Check.fails("mending makes nothing younger", UNSUPPORTED, () -> hall.stopgap(1, 0));
        hall.years(98);
        hall.hit(0, 0);
        Check.due("stopgap for a stopgap of 99 years", hall.stopgap(0, 0), 3);
        Check.due("stopgap: free", hall.free(0), 138);
        Check.due("stopgap is sound", hall.isSound(), true);
        hall.hit(0, 0);
        hall.years(100);
        Check.fails("stopgap for one of 100 years", UNSUPPORTED, () -> hall.stopgap(0, 0));
    }

    private static void stopgapPlaces() {
        LeadlightHall hall = OpeningTest.wall("0#", "0#", "00");
        hall.sheet(0, 12, 12, 'h');
        hall.seed(5);
        hall.cut(0, 0, false);
        hall.comes();
        hall.solder();
        hall.sheet(0, 3, 2, 'h');
        hall.sheet(0, 2, 3, 'h');
        hall.hit(0, 0);
        Check.fails("a stopgap is not turned", UNSUPPORTED, () -> hall.stopgap(0, 1));
        for (int z = 1; z < 100; z++) {
            hall.seed(z);
            int sheet = z == 1 ? 2 : 0;
            if (hall.glass(0) == 'l') {
                hall.hit(0, 0);
            }
            if (z < 25) {
                Check.due("no stopgap breaks", hall.stopgap(0, sheet), z);
                Check.due("no stopgap breaks", hall.glass(0), 'l');
            }
        }
    }

    private static void stopgapFarOff() {
        LeadlightHall hall = new LeadlightHall();
        hall.open(7, 9, 8, 10, true);
        hall.lay(0, 7, 9, 8, 10);
        hall.sheet(0, 4, 2, 'h');
        hall.cut(0, 0, false);
        hall.comes();
        hall.solder();
        hall.sheet(0, 2, 2, 'h');
        hall.hit(8, 10);
        Check.due("a stopgap for a far piece out of a small sheet", hall.stopgap(0, 1), 1);
    }

    private static void year() {
        LeadlightHall hall = OpeningTest.wall("01");
        hall.sheet(0, 12, 12, 'h');
        Check.fails("year without glass", NONE, () -> hall.year(0));
        hall.cut(0, 0, false);
        Check.due("year 0", hall.year(0), 0);
        hall.years(7);
        hall.cut(0, 1, false);
        Check.due("year 7", hall.year(1), 7);
        hall.years(3);
        hall.comes();
        hall.comes();
        hall.solder();
        Check.due("year of the cut", hall.year(0), 0);
        Check.due("year of the cut", hall.year(1), 7);
        hall.hit(0, 0);
        Check.due("year of a broken one", hall.year(0), 0);
        hall.mend(0);
        Check.due("year of a mended one", hall.year(0), 0);
        hall.hit(0, 0);
        hall.stopgap(0, 0);
        Check.due("year of a stopgap", hall.year(0), 10);
        Check.fails("year(-1)", INDEX, () -> hall.year(-1));
        Check.fails("year(30)", INDEX, () -> hall.year(30));
        Check.fails("year of none", NONE, () -> hall.year(29));
    }

    private static void hands() {
        LeadlightHall hall = OpeningTest.wall("01");
        Check.due("hands without glass", hall.hands(), 0);
        hall.sheet(0, 12, 12, 'h');
        hall.cut(0, 0, false);
        Check.due("hands of one", hall.hands(), 1);
        hall.cut(0, 1, false);
        Check.due("hands of like years", hall.hands(), 1);
        hall.comes();
        hall.comes();
        hall.solder();
        hall.years(64);
        Check.due("years alone are no hands", hall.hands(), 1);
        hall.hit(0, 0);
        Check.due("broken glass counts", hall.hands(), 1);
        hall.mend(0);
        Check.due("hands with a lead", hall.hands(), 2);
        hall.hit(0, 0);
        hall.mend(0);
        Check.due("hands with two leads of a year", hall.hands(), 2);
        hall.years(1);
        hall.hit(0, 0);
        hall.mend(0);
        Check.due("hands with leads of two years", hall.hands(), 3);
        hall.hit(1, 0);
        hall.mend(1);
        Check.due("hands with a lead of a like year", hall.hands(), 3);
        hall.years(1);
        hall.hit(0, 0);
        Check.due("leads of a broken one count", hall.hands(), 3);
        hall.stopgap(0, 0);
        Check.due("leads go with their glass", hall.hands(), 3);
        hall.hit(1, 0);
        hall.stopgap(1, 0);
        Check.due("leads go with their glass", hall.hands(), 1);
        hall.years(500);
        hall.years(500);
        hall.years(500);
        hall.years(434);
        hall.hit(1, 0);
        hall.mend(1);
        Check.due("hands of the year 2000", hall.hands(), 2);
        LeadlightHall old = LeadingTest.upWindow();
        for (int year = 1; year <= 160; year++) {
            old.years(year % 2 == 0 ? 1 : 20);
            old.hit(0, 0);
            old.mend(0);
            Check.due("hands of many years", old.hands(), year + 1);
        }
    }

    private static void fits() {
        LeadlightHall hall = OpeningTest.wall("0#1#22#3#444", "00#1#2##3###", "5#66##7#8###", "5566##7788##");
        hall.sheet(2, 12, 12, 'h');
        hall.sheet(0, 12, 12, 'h');
        for (int piece = 0; piece < 9; piece++) {
            hall.want(piece, 2, '-');
        }
        Check.fails("fits without glass", NONE, () -> hall.fits(0));
        hall.seed(5);
        Check.due("cut", hall.cut(0, 0, false), true);
        Check.due("fits: 5, 7 and 8", hall.fits(0), 3);
        hall.want(5, 0, '-');
        Check.due("fits: another colour is wanted", hall.fits(0), 2);
        hall.want(7, 2, 'v');
        Check.due("fits: streaks do not count", hall.fits(0), 2);
        hall.seed(5);
        hall.cut(0, 8, false);
        Check.due("fits: one has glass", hall.fits(0), 1);
        Check.due("fits another", hall.fits(8), 1);
        hall.lay(9, 2, 3, 2, 3);
        Check.due("fits goes on", hall.fits(0), 1);
        Check.fails("fits(-1)", INDEX, () -> hall.fits(-1));
        Check.fails("fits(30)", INDEX, () -> hall.fits(30));
        Check.fails("fits of none", NONE, () -> hall.fits(29));
        LeadlightHall up = LeadingTest.upWindow();
        Check.due("fits none as all are whole", up.fits(0), 0);
        up.hit(0, 1);
        Check.due("fits a broken one", up.fits(0), 1);
        Check.due("fits no other", up.fits(1), 0);
        up.sheet(3, 12, 12, 'h');
        up.hit(0, 0);
        Check.due("fits of a broken one", up.fits(1), 1);
        up.stopgap(0, 1);
        Check.due("fits by the colour of the glass", up.fits(0), 0);
    }

    private static void price() {
        LeadlightHall hall = OpeningTest.wall("11", "00");
        Check.due("price of lead", hall.price(), 30);
        hall.sheet(0, 12, 12, 'h');
        Check.due("price of sheets", hall.price(), 30);
        hall.cut(0, 0, false);
        Check.due("price with glass", hall.price(), 35);
        hall.cut(0, 1, false);
        Check.due("price with glass", hall.price(), 40);
        hall.paint(0, 't');
        hall.paint(0, 't');
        hall.paint(1, 'm');
        Check.due("price with raw layers", hall.price(), 40);
        hall.fire(1, 660);
        Check.due("price with fixed layers", hall.price(), 44);
        hall.fire(2, 620);
        Check.due("price with fixed layers", hall.price(), 46);
        hall.comes();
        hall.comes();
        hall.solder();
        Check.due("price as it is up", hall.price(), 46);
        hall.hit(0, 0);
        Check.due("price when broken", hall.price(), 46);
        hall.mend(0);
        Check.due("price with a mend", hall.price(), 53);
        hall.hit(0, 0);
        hall.stopgap(0, 0);
        Check.due("price with a stopgap", hall.price(), 56);
    }
}
