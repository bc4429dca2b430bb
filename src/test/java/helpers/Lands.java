import java.util.List;
import java.util.function.Supplier;

/** Lands that the tests of edges begin with; each call makes a new one. */
final class Lands {
    /** Seventeen items in 120 bytes, as many as the tape may have. */
    static final String FULL_TAPE = "free 0;free 1;free 2;free 3;free 4;free 5;free 6;free 7;free 8;free 9;"
        + "free 8;free 7;free 6;free 5;free 4;free 3; free 20";

    private Lands() {
    }

    static List<Supplier<MountainFile>> all() {
        return List.of(Lands::empty, Lands::some, Lands::full);
    }

    static MountainFile empty() {
        return new MountainFile();
    }

    /**
     * Ranges 0 to 2, villages 0 and 1, two passes, a tape with a text, sheets
     * of 8, 16 and 64 bits (the last is MISSING), and an image that is older
     * than what there is.
     */
    static MountainFile some() {
        MountainFile x = new MountainFile();
        x.range(4, 2);
        x.range(5, 9);
        x.range(3, 23);
        x.set(0, 2, 9);
        x.set(2, 2, 4);
        x.pass(12, 3, 1);
        x.pass(0, 9, 5);
        x.village(23);
        x.village(6);
        x.order(0, -4);
        x.order(2, 3);
        x.seasons(3);
        x.image();
        x.seasons(2);
        x.order(3, 7);
        x.turn(1, 2);
        Check.feedText(x, "village 7;hill at 20");
        x.sheet(0, 8, 4);
        x.sheet(1, 16, 3);
        x.sheet(2, 64, 5);
        for (int i = 0; i < 3; i++) {
            x.write(0, i, 7 + i);
            x.write(1, i, 17 + i);
            x.write(2, i, 5000000000L + i);
        }
        return x;
    }

    /** As many of all as there may be: ranges, passes, villages, bytes, numbers. */
    static MountainFile full() {
        MountainFile x = new MountainFile();
        for (int r = 0; r < 8; r++) {
            x.range(r % 6, 3 * r);
            x.set(r, 2, 9 - r);
        }
        for (int c = 0; c < 24; c++) {
            x.pass(c, 2 + c % 8, 1 + c % 2);
        }
        for (int v = 0; v < 6; v++) {
            x.village(4 * v + 3);
        }
        x.order(1, 9);
        x.seasons(3);
        x.image();
        x.seasons(2);
        x.order(0, -9);
        for (int i = 0; i < 120; i += 4) {
            x.feed(fourBytes(FULL_TAPE, i), 4);
        }
        x.sheet(0, 8, 40);
        x.sheet(1, 64, 40);
        x.sheet(2, 8, 3);
        x.sheet(3, 16, 2);
        x.write(0, 0, 5);
        x.write(0, 39, 6);
        x.write(1, 39, 7);
        x.write(2, 2, 8);
        x.write(3, 1, 9);
        return x;
    }

    private static int fourBytes(String text, int from) {
        return text.charAt(from) << 24 | text.charAt(from + 1) << 16 | text.charAt(from + 2) << 8 | text.charAt(from + 3);
    }
}
