import java.util.NoSuchElementException;
import java.util.function.Consumer;
import java.util.function.Supplier;

/**
 * Two windows made alike, of which one is refused a call: whatever they are asked then, both answer the same. An
 * object is good for 512 calls only, so for each question that changes something there are new twins.
 */
final class Twins {
    private static final int COLOURS = 10;
    private static final char[] STREAKS = {'-', 'h', 'v'};

    private Twins() {
    }

    static void refused(String call, Class<? extends RuntimeException> due, Supplier<LeadlightHall> make,
            Consumer<LeadlightHall> calls) {
        LeadlightHall one = make.get();
        Check.fails(call, due, () -> calls.accept(one));
        Check.due(call + " changes nothing", stateOf(one), stateOf(make.get()));
        Check.due(call + " changes no sheet", cutUp(refusedAgain(make, calls)), cutUp(make.get()));
        for (int wanted = 0; wanted < COLOURS * STREAKS.length; wanted++) {
            int colour = wanted % COLOURS;
            char streaks = STREAKS[wanted / COLOURS];
            Check.due(call + " changes no wish", wishes(refusedAgain(make, calls), colour, streaks),
                    wishes(make.get(), colour, streaks));
        }
    }

    private static LeadlightHall refusedAgain(Supplier<LeadlightHall> make, Consumer<LeadlightHall> calls) {
        LeadlightHall hall = make.get();
        try {
            calls.accept(hall);
        } catch (RuntimeException e) {
            return hall;
        }
        return hall;
    }

    /** All that can be asked, but for wishes, and for where sheets are used; at most some 220 calls. */
    static String stateOf(LeadlightHall hall) {
        StringBuilder state = new StringBuilder();
        state.append(hall.checksum()).append(' ').append(hall.price()).append(' ').append(hall.hands());
        state.append(' ').append(hall.isUp()).append(' ').append(hall.isSound()).append(' ').append(hall.bears());
        state.append(' ').append(hall.isOrderly()).append(' ').append(nextOf(hall));
        for (int piece = 0; piece < 30; piece++) {
            state.append(' ').append(hall.layers(piece, 'r'));
            if (hall.glass(piece) != '-') {
                state.append('c').append(hall.colour(piece)).append('y').append(hall.year(piece));
            }
        }
        for (int sheet = 0; sheet < 8; sheet++) {
            state.append(' ').append(freeOf(hall, sheet));
        }
        state.append(" z").append(hall.seed(77)).append(" w").append(hall.wind(100)).append(' ');
        if (!hall.isUp()) {
            state.append(hall.profile(4));
        }
        for (int row = 1; row < 12; row++) {
            state.append(hall.bar(row, false) ? '1' : '0');
        }
        return state.append(" y").append(yearOf(hall)).toString();
    }

    private static int nextOf(LeadlightHall hall) {
        try {
            return hall.next();
        } catch (NoSuchElementException e) {
            return -1;
        }
    }

    private static int freeOf(LeadlightHall hall, int sheet) {
        try {
            return hall.free(sheet);
        } catch (IndexOutOfBoundsException e) {
            return -1;
        }
    }

    private static int yearOf(LeadlightHall hall) {
        try {
            return hall.years(1) - 1;
        } catch (IllegalStateException e) {
            return 2000;
        }
    }

    private static String wishes(LeadlightHall hall, int colour, char streaks) {
        StringBuilder wishes = new StringBuilder();
        for (int piece = 0; piece < 30 && !hall.isUp(); piece++) {
            if (hall.glass(piece) == '-') {
                wishes.append(hall.want(piece, colour, streaks) ? '1' : '0');
            }
        }
        return wishes.toString();
    }

    /** Which pieces can be cut out of which sheet, one behind the other, or have a stopgap out of it. */
    private static String cutUp(LeadlightHall hall) {
        StringBuilder told = new StringBuilder();
        for (int sheet = 0; sheet < 8 && freeOf(hall, sheet) >= 0; sheet++) {
            for (int piece = 0; piece < 10; piece++) {
                told.append(tryToCut(hall, sheet, piece, false)).append(tryToCut(hall, sheet, piece, true));
                told.append(tryToStop(hall, sheet, piece));
            }
            told.append(freeOf(hall, sheet)).append(' ');
        }
        return told.toString();
    }

    private static char tryToCut(LeadlightHall hall, int sheet, int piece, boolean isTurned) {
        try {
            return hall.cut(sheet, piece, isTurned) ? 'c' : 'b';
        } catch (IllegalArgumentException e) {
            return 'a';
        } catch (UnsupportedOperationException e) {
            return 'u';
        }
    }

    private static char tryToStop(LeadlightHall hall, int sheet, int piece) {
        try {
            return hall.stopgap(piece, sheet) > 0 ? 's' : '?';
        } catch (UnsupportedOperationException e) {
            return 'u';
        }
    }
}
