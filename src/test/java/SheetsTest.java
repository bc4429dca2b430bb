/** Promises 33 to 38: sheets, the book and the reader. */
public final class SheetsTest {
    private static final Check check = new Check();

    public static void main(String[] args) {
        promise33Sheet();
        promise34Write();
        promise35Copy();
        promise35Findings();
        promise36Lays();
        promise37Book();
        promise38Read();
        check.end();
    }

    private static void promise33Sheet() {
        MountainFile x = new MountainFile();
        check.due("8", x.sheet(0, 8, 40), 40);
        check.due("16", x.sheet(3, 16, 1), 1);
        check.due("64", x.sheet(1, 64, 0), 0);
        x.write(0, 39, 5);
        x.write(0, 0, 6);
        check.due("anew", x.sheet(0, 8, 40), 40);
        check.due("all are 0", x.write(0, 39, 7), 0);
        check.due("the first is 0", x.write(0, 0, 7), 0);
        check.due("shorter", x.sheet(0, 16, 3), 3);
        check.due("no such number now", x.write(0, 3, 1), Check.BEYOND);
        check.due("longer", x.sheet(0, 64, 40), 40);
        check.due("all are 0 again", x.write(0, 39, 7), 0);
        int findings = x.status(-1);
        check.due("sheet -1", x.sheet(-1, 8, 1), Check.BEYOND);
        check.due("sheet 4", x.sheet(4, 8, -1), Check.BEYOND);
        check.due("bits 32", x.sheet(0, 32, -1), Check.BEYOND);
        check.due("bits -8", x.sheet(0, -8, 1), Check.BEYOND);
        check.due("n -1", x.sheet(0, 8, -1), Check.SIZE);
        check.due("n -1 of none", x.sheet(0, 0, -1), Check.SIZE);
        check.due("n 41", x.sheet(0, 8, 41), Check.BEYOND);
        check.due("n 41 of none", x.sheet(0, 0, 41), Check.BEYOND);
        check.due("counted", x.status(-1), findings + 8);
        check.due("SIZE counted", x.status(6), 2);
        check.due("it stays", x.write(0, 39, 7), 7);
        check.due("missing", x.sheet(0, 0, 40), 0);
        check.due("is missing", x.write(0, 0, 7), Check.MISSING);
    }

    private static void promise34Write() {
        MountainFile x = new MountainFile();
        x.sheet(0, 8, 2);
        x.sheet(1, 16, 2);
        x.sheet(2, 64, 2);
        long[] numbers = {1, -1, 127, 128, 255, 256, 32767, 32768, 65536, 5000000000L, Long.MIN_VALUE, Long.MAX_VALUE};
        long was8 = 0;
        long was16 = 0;
        long was64 = 0;
        for (long number : numbers) {
            check.due("8 bits", x.write(0, 1, number), was8);
            check.due("16 bits", x.write(1, 1, number), was16);
            check.due("64 bits", x.write(2, 1, number), was64);
            was8 = (byte) number;
            was16 = (short) number;
            was64 = number;
        }
        check.due("the other one", x.write(0, 0, 3), 0);
        check.due("sheet -1", x.write(-1, 0, 0), Check.BEYOND);
        check.due("sheet 4", x.write(4, 9, 0), Check.BEYOND);
        check.due("missing", x.write(3, -1, 0), Check.MISSING);
        check.due("number -1", x.write(0, -1, 0), Check.BEYOND);
        check.due("number 2", x.write(0, 2, 0), Check.BEYOND);
        check.due("BEYOND counted", x.status(0), 4);
        check.due("MISSING counted", x.status(5), 1);
        check.due("nothing changed", x.write(0, 0, 0), 3);
    }

    private static void promise35Copy() {
        MountainFile x = new MountainFile();
        x.sheet(0, 16, 5);
        x.sheet(1, 16, 3);
        writeTens(x);
        check.due("to another one", x.copy(0, 2, 1, 1, 2), 2);
        checkRow("another one", x, 1, 0, 12, 13);
        checkRow("the first one stays", x, 0, 10, 11, 12, 13, 14);
        writeTens(x);
        check.due("ahead over itself", x.copy(0, 0, 0, 1, 4), 4);
        checkRow("ahead", x, 0, 10, 10, 11, 12, 13);
        writeTens(x);
        check.due("back over itself", x.copy(0, 1, 0, 0, 4), 4);
        checkRow("back", x, 0, 11, 12, 13, 14, 14);
        check.due("none", x.copy(0, 5, 0, 5, 0), 0);
        check.due("all", x.copy(0, 0, 0, 0, 5), 5);
    }

    private static void writeTens(MountainFile x) {
        for (int i = 0; i < 5; i++) {
            x.write(0, i, 10 + i);
        }
    }

    /** Asks each number by writing 0 in its place. */
    private static void checkRow(String what, MountainFile x, int s, long... row) {
        for (int i = 0; i < row.length; i++) {
            check.due(what + " number " + i, x.write(s, i, 0), row[i]);
        }
    }

    private static void promise35Findings() {
        MountainFile x = new MountainFile();
        x.sheet(0, 8, 4);
        x.sheet(1, 64, 4);
        x.sheet(2, 8, 2);
        check.due("sheet -1", x.copy(-1, 0, 3, 0, -1), Check.BEYOND);
        check.due("sheet 4", x.copy(3, 0, 4, 0, -1), Check.BEYOND);
        check.due("one is missing", x.copy(3, 0, 0, 0, -1), Check.MISSING);
        check.due("the other one is", x.copy(0, 0, 3, 0, -1), Check.MISSING);
        check.due("other bits", x.copy(0, 0, 1, 0, -1), Check.KIND);
        check.due("n -1", x.copy(0, 0, 2, 0, -1), Check.BEYOND);
        check.due("from -1", x.copy(0, -1, 2, 0, 1), Check.BEYOND);
        check.due("to -1", x.copy(0, 0, 2, -1, 1), Check.BEYOND);
        check.due("too many of the one", x.copy(2, 0, 0, 0, 3), Check.BEYOND);
        check.due("too many of the other", x.copy(0, 0, 2, 0, 3), Check.BEYOND);
        check.due("from too far on", x.copy(0, 3, 2, 0, 2), Check.BEYOND);
        check.due("to too far on", x.copy(0, 0, 2, 1, 2), Check.BEYOND);
        check.due("none from behind its end", x.copy(0, 5, 2, 0, 0), Check.BEYOND);
        int most = Integer.MAX_VALUE;
        check.due("from and n wrap round", x.copy(0, most, 2, 0, most), Check.BEYOND);
        check.due("to and n wrap round", x.copy(0, 0, 2, most, 2), Check.BEYOND);
        check.due("BEYOND counted", x.status(0), 12);
        check.due("MISSING counted", x.status(5), 2);
        check.due("KIND counted", x.status(2), 1);
    }

    private static void promise36Lays() {
        MountainFile x = new MountainFile();
        for (int r = 0; r < 5; r++) {
            x.range(0, r);
            x.set(r, 2, 5);
        }
        x.sheet(0, 64, 4);
        x.write(0, 0, 9);
        x.write(0, 1, 10);
        x.write(0, 2, -1);
        x.write(0, 3, 0);
        check.due("two came", x.lays(0), 2);
        int[] hastes = {9, 5, 5, 0, 5};
        for (int r = 0; r < 5; r++) {
            check.due("haste of " + r, x.of(r, 2), hastes[r]);
        }
        x.write(0, 0, 1L << 32);
        check.due("far above 9", x.lays(0), 1);
        check.due("left out", x.of(0, 2), 9);
        x.sheet(1, 8, 40);
        check.due("as many as there are ranges", x.lays(1), 5);
        check.due("of none", x.sheet(1, 16, 0) + x.lays(1), 0);
        check.due("sheet -1", x.lays(-1), Check.BEYOND);
        check.due("sheet 4", x.lays(4), Check.BEYOND);
        check.due("missing", x.lays(3), Check.MISSING);
    }

    private static void promise37Book() {
        MountainFile x = new MountainFile();
        x.range(0, 20);
        x.range(2, 3);
        x.sheet(0, 8, 40);
        x.sheet(1, 16, 0);
        x.sheet(2, 64, 3);
        check.due("forty", x.book(0, 1), 40);
        for (int i = 0; i < 40; i++) {
            check.due("cell on " + i, x.write(0, i, 0), (3 + i) % 24);
        }
        check.due("none", x.book(1, 0), 0);
        check.due("three", x.book(2, 0), 3);
        check.due("now", x.write(2, 0, 0), 20);
        check.due("on 1", x.write(2, 1, 0), 22);
        check.due("on 2", x.write(2, 2, 0), 0);
        check.due("nothing changes", x.now(0), 0);
        check.due("sheet -1", x.book(-1, 9), Check.BEYOND);
        check.due("sheet 4", x.book(4, 0), Check.BEYOND);
        check.due("missing", x.book(3, 9), Check.MISSING);
        check.due("range -1", x.book(0, -1), Check.BEYOND);
        check.due("range 2", x.book(0, 2), Check.BEYOND);
    }

    private static void promise38Read() {
        MountainFile x = new MountainFile();
        x.range(0, 0);
        x.sheet(0, 8, 2);
        x.sheet(1, 64, 0);
        check.due("all by no number", x.read(1, 0), 190);
        // A stride of 2 comes by three hastes, one of 5 by one alone.
        x.write(0, 1, 2);
        check.due("stride 2", x.read(0, 0), 3 * 19);
        x.write(0, 1, 5);
        check.due("stride 5", x.read(0, 0), 19);
        x.write(0, 1, 6);
        check.due("stride 6", x.read(0, 0), 0);
        x.write(0, 0, 1);
        x.write(0, 1, 3);
        check.due("it is not there now", x.read(0, 0), 0);
        // It goes at all only behind the other one, with a weight below 0.
        x.range(0, 1);
        x.write(0, 0, 0);
        x.write(0, 1, 2);
        check.due("the other one goes first, up to 3", x.read(0, 0), 9 * 10);
        x.write(0, 1, 0);
        check.due("it goes first", x.read(0, 0), 10 * 10);
        x.sheet(1, 64, 1);
        x.write(1, 0, 1L << 32);
        check.due("a number far above all cells", x.read(1, 0), 0);
        check.due("haste stays", x.of(0, 2), 0);
        check.due("weight stays", x.order(0, 0), 0);
        check.due("sheet -1", x.read(-1, 9), Check.BEYOND);
        check.due("sheet 4", x.read(4, 0), Check.BEYOND);
        check.due("missing", x.read(3, 9), Check.MISSING);
        check.due("range -1", x.read(0, -1), Check.BEYOND);
        check.due("range 2", x.read(0, 2), Check.BEYOND);
    }
}
