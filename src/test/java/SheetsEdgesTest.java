/** The edges that promises 33 to 38 name: sheets, the book and the reader. */
public final class SheetsEdgesTest {
    private static final int[] BITS = {8, 16, 64};
    private static final Check check = new Check();
    private static final Edges edges = new Edges(check);

    public static void main(String[] args) throws ReflectiveOperationException {
        check.runPromises(SheetsEdgesTest.class);
        check.end();
    }

    /** Sheet 0: 8 bits, 10 to 14; 1: 8 bits, three; 2: 64 bits, none; 3 is MISSING; two ranges. */
    private static MountainFile sheets() {
        MountainFile x = new MountainFile();
        x.range(0, 20);
        x.range(2, 3);
        x.sheet(0, 8, 5);
        for (int i = 0; i < 5; i++) {
            x.write(0, i, 10 + i);
        }
        x.sheet(1, 8, 3);
        x.sheet(2, 64, 0);
        return x;
    }

    /** Asks each number by writing 0 in its place; the one behind is BEYOND. */
    private static void checkRow(String what, MountainFile x, int s, long... row) {
        for (int i = 0; i < row.length; i++) {
            check.due(what + ", number " + i, x.write(s, i, 0), row[i]);
        }
        check.due(what + ", behind", x.write(s, row.length, 0), Check.BEYOND);
    }

    // ---- promise 33: sheet

    private static void promise33Sheets0To3() {
        edges.bounds("sheet(v, 8, 1)", Lands::some, 0, 3, (x, v) -> x.sheet(v, 8, 1));
        edges.bounds("sheet(v, 0, 0)", Lands::empty, 0, 3, (x, v) -> x.sheet(v, 0, 0));
    }

    private static void promise33Bits() {
        for (int bits : new int[] {Integer.MIN_VALUE, -64, -8, -1, 1, 7, 9, 15, 17, 24, 32, 63, 65, Integer.MAX_VALUE}) {
            edges.refused("bits " + bits, Lands::some, Check.BEYOND, x -> x.sheet(0, bits, 1));
        }
        for (int bits : BITS) {
            check.due("bits " + bits, Lands.some().sheet(3, bits, 7), 7);
        }
        check.due("bits 0", Lands.some().sheet(3, 0, 7), 0);
    }

    private static void promise33From0To40Numbers() {
        for (int bits : BITS) {
            MountainFile x = Lands.empty();
            check.due("none", x.sheet(0, bits, 0), 0);
            check.due("there is no number", x.write(0, 0, 1), Check.BEYOND);
            check.due("one", x.sheet(0, bits, 1), 1);
            check.due("number 0", x.write(0, 0, 1), 0);
            check.due("there is no other", x.write(0, 1, 1), Check.BEYOND);
            check.due("forty", x.sheet(0, bits, 40), 40);
            check.due("number 39", x.write(0, 39, 1), 0);
            check.due("there is no 40", x.write(0, 40, 1), Check.BEYOND);
        }
    }

    private static void promise33AboveForty() {
        for (int bits : new int[] {0, 8, 16, 64}) {
            edges.refused("41 of " + bits, Lands::full, Check.BEYOND, x -> x.sheet(0, bits, 41));
            edges.refused("most of " + bits, Lands::some, Check.BEYOND, x -> x.sheet(0, bits, Integer.MAX_VALUE));
        }
    }

    private static void promise33BelowZero() {
        for (int bits : new int[] {0, 8, 16, 64}) {
            edges.refused("-1 of " + bits, Lands::full, Check.SIZE, x -> x.sheet(0, bits, -1));
            edges.refused("least of " + bits, Lands::some, Check.SIZE, x -> x.sheet(0, bits, Integer.MIN_VALUE));
        }
    }

    private static void promise33BeyondIsAskedAheadOfSize() {
        edges.refused("sheet -1, n -1", Lands::some, Check.BEYOND, x -> x.sheet(-1, 8, -1));
        edges.refused("sheet 4, n -1", Lands::some, Check.BEYOND, x -> x.sheet(4, 0, -1));
        edges.refused("bits 32, n -1", Lands::some, Check.BEYOND, x -> x.sheet(0, 32, -1));
        edges.refused("bits -1, n -1", Lands::some, Check.BEYOND, x -> x.sheet(0, -1, -1));
        edges.refused("sheet 4, bits 32, n 41", Lands::some, Check.BEYOND, x -> x.sheet(4, 32, 41));
    }

    private static void promise33Missing() {
        for (int n : new int[] {0, 1, 40}) {
            MountainFile x = Lands.some();
            check.due("n " + n, x.sheet(0, 0, n), 0);
            check.due("it is missing", x.write(0, 0, 1), Check.MISSING);
            check.due("once more", x.sheet(0, 0, n), 0);
        }
        edges.asked("what is missing", Lands::some, 0, x -> x.sheet(3, 0, 40));
    }

    private static void promise33AllAreZero() {
        MountainFile x = Lands.full();
        x.sheet(0, 8, 40);
        x.sheet(1, 16, 40);
        checkRow("anew", x, 0, new long[40]);
        checkRow("of other bits", x, 1, new long[40]);
        MountainFile y = sheets();
        y.sheet(0, 8, 2);
        y.sheet(0, 8, 5);
        checkRow("shorter and longer again", y, 0, 0, 0, 0, 0, 0);
        MountainFile z = sheets();
        z.sheet(0, 0, 5);
        z.sheet(0, 8, 5);
        checkRow("missing and there again", z, 0, 0, 0, 0, 0, 0);
        checkRow("another one stays", sheetBesides(), 0, 10, 11, 12, 13, 14);
    }

    private static MountainFile sheetBesides() {
        MountainFile x = sheets();
        x.sheet(1, 64, 40);
        x.sheet(2, 0, 0);
        x.sheet(3, 16, 40);
        return x;
    }

    // ---- promise 34: write

    private static void promise34SheetsAndNumbers() {
        edges.bounds("write(v, 0, 1)", Lands::full, 0, 3, (x, v) -> x.write(v, 0, 1));
        edges.bounds("write(0, v, 1)", Lands::full, 0, 39, (x, v) -> x.write(0, v, 1));
        edges.bounds("write(1, v, 1)", Lands::full, 0, 39, (x, v) -> x.write(1, v, 1));
        edges.bounds("write(3, v, 1)", Lands::full, 0, 1, (x, v) -> x.write(3, v, 1));
        edges.bounds("write(0, v, 1)", SheetsEdgesTest::sheets, 0, 4, (x, v) -> x.write(0, v, 1));
        edges.refused("of none", SheetsEdgesTest::sheets, Check.BEYOND, x -> x.write(2, 0, 1));
    }

    private static void promise34FindingsInTheirOrder() {
        for (int i : new int[] {Integer.MIN_VALUE, -1, 0, 40, Integer.MAX_VALUE}) {
            edges.refused("sheet -1, number " + i, SheetsEdgesTest::sheets, Check.BEYOND, x -> x.write(-1, i, 1));
            edges.refused("sheet 4, number " + i, SheetsEdgesTest::sheets, Check.BEYOND, x -> x.write(4, i, 1));
            edges.refused("missing, number " + i, SheetsEdgesTest::sheets, Check.MISSING, x -> x.write(3, i, 1));
        }
    }

    private static void promise34TheLowestBits() {
        long[] numbers = {
            0, 1, 9, 10, 127, -127, -128, -1, 128, 255, 256, -129, 32767, -32768, 32768, 65535, 65536, -32769,
            1L << 31, 1L << 32, (1L << 32) + 5, Long.MAX_VALUE, Long.MIN_VALUE};
        for (long number : numbers) {
            check.due(number + " in 8 bits", rewritten(8, number), (byte) number);
            check.due(number + " in 16 bits", rewritten(16, number), (short) number);
            check.due(number + " in 64 bits", rewritten(64, number), number);
        }
    }

    private static long rewritten(int bits, long number) {
        MountainFile x = Lands.empty();
        x.sheet(3, bits, 1);
        check.due("at first", x.write(3, 0, number), 0);
        return x.write(3, 0, 0);
    }

    private static void promise34AFindingThatIsANumber() {
        MountainFile x = Lands.empty();
        x.sheet(0, 64, 1);
        for (long number = Check.SIZE; number <= Check.BEYOND; number++) {
            x.write(0, 0, number);
            check.due("what it was", x.write(0, 0, 0), number);
        }
        check.due("is no finding", x.status(-1), 0);
        check.due("in longs", x.write(4, 0, 0), -1000000001L);
        check.due("in longs, MISSING", x.write(1, 0, 0), -1000000006L);
        check.due("counted", x.status(-1), 2);
    }

    // ---- promise 35: copy

    private static void promise35Sheets() {
        edges.bounds("copy(v, 0, 0, 0, 1)", Lands::full, 0, 3, (x, v) -> x.copy(v, 0, 0, 0, 1));
        edges.bounds("copy(0, 0, v, 0, 1)", Lands::full, 0, 3, (x, v) -> x.copy(0, 0, v, 0, 1));
        edges.refused("neither is there", Lands::full, Check.BEYOND, x -> x.copy(-1, 0, 4, 0, 1));
    }

    private static void promise35BeyondIsAskedAheadOfMissing() {
        edges.refused("from 3 to 4", SheetsEdgesTest::sheets, Check.BEYOND, x -> x.copy(3, 0, 4, 0, 1));
        edges.refused("from -1 to 3", SheetsEdgesTest::sheets, Check.BEYOND, x -> x.copy(-1, 0, 3, 0, 1));
    }

    private static void promise35MissingIsAskedAheadOfKindAndNumbers() {
        edges.refused("from one", SheetsEdgesTest::sheets, Check.MISSING, x -> x.copy(3, 0, 0, 0, 1));
        edges.refused("to one", SheetsEdgesTest::sheets, Check.MISSING, x -> x.copy(0, 0, 3, 0, 1));
        edges.refused("from one to it", SheetsEdgesTest::sheets, Check.MISSING, x -> x.copy(3, 0, 3, 0, 0));
        edges.refused("from one, n -1", SheetsEdgesTest::sheets, Check.MISSING, x -> x.copy(3, -1, 0, 9, -1));
        edges.refused("to one, n 41", SheetsEdgesTest::sheets, Check.MISSING, x -> x.copy(2, 0, 3, 0, 41));
    }

    private static void promise35KindIsAskedAheadOfNumbers() {
        edges.refused("8 to 64", SheetsEdgesTest::sheets, Check.KIND, x -> x.copy(0, 0, 2, 0, 0));
        edges.refused("64 to 8", SheetsEdgesTest::sheets, Check.KIND, x -> x.copy(2, 0, 0, 0, 0));
        edges.refused("8 to 64, n -1", SheetsEdgesTest::sheets, Check.KIND, x -> x.copy(0, 0, 2, 0, -1));
        edges.refused("8 to 64, n 41", SheetsEdgesTest::sheets, Check.KIND, x -> x.copy(0, 0, 2, 0, 41));
        edges.refused("16 to 64", Lands::some, Check.KIND, x -> x.copy(1, 0, 2, 0, 1));
        edges.refused("8 to 16", Lands::some, Check.KIND, x -> x.copy(0, 0, 1, 0, 1));
    }

    private static void promise35BelowZero() {
        for (int below : new int[] {-1, Integer.MIN_VALUE}) {
            edges.refused("from " + below, SheetsEdgesTest::sheets, Check.BEYOND, x -> x.copy(0, below, 1, 0, 1));
            edges.refused("to " + below, SheetsEdgesTest::sheets, Check.BEYOND, x -> x.copy(0, 0, 1, below, 1));
            edges.refused("n " + below, SheetsEdgesTest::sheets, Check.BEYOND, x -> x.copy(0, 0, 1, 0, below));
            edges.refused("from " + below + ", n 0", SheetsEdgesTest::sheets, Check.BEYOND, x -> x.copy(0, below, 1, 0, 0));
            edges.refused("to " + below + ", n 0", SheetsEdgesTest::sheets, Check.BEYOND, x -> x.copy(0, 0, 1, below, 0));
            edges.refused("from 1, n " + below, SheetsEdgesTest::sheets, Check.BEYOND, x -> x.copy(0, 1, 1, 1, below));
        }
    }

    /** Sheet 0 has five numbers, sheet 1 three. */
    private static void promise35NotSoMany() {
        check.due("three from the end", sheets().copy(0, 2, 1, 0, 3), 3);
        edges.refused("three from one on", SheetsEdgesTest::sheets, Check.BEYOND, x -> x.copy(0, 3, 1, 0, 3));
        check.due("two to the end", sheets().copy(0, 0, 1, 1, 2), 2);
        edges.refused("two to one on", SheetsEdgesTest::sheets, Check.BEYOND, x -> x.copy(0, 0, 1, 2, 2));
        check.due("all of the lesser", sheets().copy(1, 0, 0, 2, 3), 3);
        edges.refused("one more of the lesser", SheetsEdgesTest::sheets, Check.BEYOND, x -> x.copy(1, 0, 0, 0, 4));
        edges.refused("one more to the lesser", SheetsEdgesTest::sheets, Check.BEYOND, x -> x.copy(0, 0, 1, 0, 4));
        edges.refused("six of five", SheetsEdgesTest::sheets, Check.BEYOND, x -> x.copy(0, 0, 0, 0, 6));
        edges.refused("one of none", SheetsEdgesTest::sheets, Check.BEYOND, x -> x.copy(2, 0, 2, 0, 1));
        check.due("forty of forty", Lands.full().copy(0, 0, 0, 0, 40), 40);
        edges.refused("forty from 1 on", Lands::full, Check.BEYOND, x -> x.copy(0, 1, 0, 0, 40));
        edges.refused("forty to 1 on", Lands::full, Check.BEYOND, x -> x.copy(0, 0, 0, 1, 40));
    }

    private static void promise35NoNumbers() {
        edges.asked("from and to the ends", SheetsEdgesTest::sheets, 0, x -> x.copy(0, 5, 1, 3, 0));
        edges.refused("from behind the end", SheetsEdgesTest::sheets, Check.BEYOND, x -> x.copy(0, 6, 1, 0, 0));
        edges.refused("to behind the end", SheetsEdgesTest::sheets, Check.BEYOND, x -> x.copy(0, 0, 1, 4, 0));
        edges.asked("of a sheet of none", SheetsEdgesTest::sheets, 0, x -> x.copy(2, 0, 2, 0, 0));
    }

    private static void promise35SumsThatWouldGoRound() {
        int most = Integer.MAX_VALUE;
        edges.refused("from most, n 1", SheetsEdgesTest::sheets, Check.BEYOND, x -> x.copy(0, most, 1, 0, 1));
        edges.refused("to most, n 1", SheetsEdgesTest::sheets, Check.BEYOND, x -> x.copy(0, 0, 1, most, 1));
        edges.refused("from 1, n most", SheetsEdgesTest::sheets, Check.BEYOND, x -> x.copy(0, 1, 1, 1, most));
        edges.refused("from most, to most, n most", SheetsEdgesTest::sheets, Check.BEYOND,
            x -> x.copy(0, most, 1, most, most));
    }

    private static void promise35AsTheyAllWere() {
        MountainFile ahead = sheets();
        check.due("ahead over itself", ahead.copy(0, 0, 0, 1, 4), 4);
        checkRow("ahead", ahead, 0, 10, 10, 11, 12, 13);
        MountainFile back = sheets();
        check.due("back over itself", back.copy(0, 1, 0, 0, 4), 4);
        checkRow("back", back, 0, 11, 12, 13, 14, 14);
        edges.asked("to where it is", SheetsEdgesTest::sheets, 5, x -> x.copy(0, 0, 0, 0, 5));
        MountainFile other = sheets();
        check.due("to another one", other.copy(0, 2, 1, 0, 3), 3);
        checkRow("the other one", other, 1, 12, 13, 14);
        checkRow("the first stays", other, 0, 10, 11, 12, 13, 14);
    }

    private static void promise35OfAllBits() {
        for (int bits : BITS) {
            MountainFile x = Lands.empty();
            x.sheet(0, bits, 2);
            x.sheet(3, bits, 2);
            x.write(0, 0, -7);
            check.due("bits " + bits, x.copy(0, 0, 3, 1, 1), 1);
            checkRow("bits " + bits, x, 3, 0, -7);
        }
    }

    // ---- promise 36: lays

    private static void promise36Sheets() {
        edges.bounds("lays(v)", Lands::full, 0, 3, (x, v) -> x.lays(v));
        edges.bounds("lays(v)", Lands::empty, 0, 3, (x, v) -> x.lays(v));
        edges.refused("missing", SheetsEdgesTest::sheets, Check.MISSING, x -> x.lays(3));
    }

    private static void promise36From0To9() {
        long[] numbers = {-1, 0, 1, 8, 9, 10, 1L << 32, Long.MIN_VALUE, Long.MAX_VALUE, (1L << 32) + 3};
        for (long number : numbers) {
            MountainFile x = Lands.empty();
            x.range(0, 0);
            x.set(0, 2, 5);
            x.sheet(2, 64, 1);
            x.write(2, 0, number);
            boolean comes = number >= 0 && number <= 9;
            check.due(number + " came", x.lays(2), comes ? 1 : 0);
            check.due("haste", x.of(0, 2), comes ? number : 5);
            check.due("no finding", x.status(-1), 0);
        }
    }

    private static void promise36NumbersCutToTheirBits() {
        MountainFile x = Lands.empty();
        x.range(0, 0);
        x.range(0, 1);
        x.sheet(0, 8, 2);
        x.write(0, 0, 256 + 9);
        x.write(0, 1, 256 + 10);
        check.due("8 bits", x.lays(0), 1);
        check.due("haste", x.of(0, 2), 9);
        x.sheet(0, 16, 2);
        x.write(0, 0, 65536 + 8);
        x.write(0, 1, 256 + 7);
        check.due("16 bits", x.lays(0), 1);
        check.due("haste", x.of(0, 2), 8);
        check.due("the other's", x.of(1, 2), 0);
    }

    private static void promise36ThoseThatStandForNone() {
        edges.asked("nobody is there", SheetsEdgesTest::nobody, 0, x -> x.lays(0));
        edges.asked("no numbers", SheetsEdgesTest::sheets, 0, x -> x.lays(2));
        MountainFile full = Lands.full();
        full.sheet(0, 8, 40);
        check.due("forty for eight", full.lays(0), 8);
        check.due("haste of all", full.count(4), 0);
        MountainFile fewer = Lands.full();
        fewer.sheet(0, 8, 7);
        check.due("seven for eight", fewer.lays(0), 7);
        check.due("the last keeps its own", fewer.count(4), 2);
        check.due("which is", fewer.of(7, 2), 2);
    }

    private static MountainFile nobody() {
        MountainFile x = new MountainFile();
        x.sheet(0, 8, 40);
        return x;
    }

    private static void promise36ThoseLeftOutTakeNoPlace() {
        MountainFile x = Lands.empty();
        for (int r = 0; r < 3; r++) {
            x.range(0, r);
            x.set(r, 2, 1);
        }
        x.sheet(0, 8, 3);
        x.write(0, 0, 4);
        x.write(0, 1, 10);
        x.write(0, 2, 6);
        check.due("two came", x.lays(0), 2);
        check.due("haste of 0", x.of(0, 2), 4);
        check.due("haste of 1", x.of(1, 2), 1);
        check.due("haste of 2", x.of(2, 2), 6);
    }

    // ---- promise 37: book

    private static void promise37SheetsAndRanges() {
        edges.bounds("book(v, 0)", Lands::full, 0, 3, (x, v) -> x.book(v, 0));
        edges.bounds("book(0, v)", Lands::full, 0, 7, (x, v) -> x.book(0, v));
        edges.bounds("book(0, v)", Lands::some, 0, 2, (x, v) -> x.book(0, v));
        edges.refused("there is none", SheetsEdgesTest::nobody, Check.BEYOND, x -> x.book(0, 0));
        edges.refused("none, of no numbers", SheetsEdgesTest::sheets, Check.BEYOND, x -> x.book(2, 2));
    }

    private static void promise37FindingsInTheirOrder() {
        edges.refused("sheet -1, range 2", SheetsEdgesTest::sheets, Check.BEYOND, x -> x.book(-1, 2));
        edges.refused("sheet 4, range -1", SheetsEdgesTest::sheets, Check.BEYOND, x -> x.book(4, -1));
        edges.refused("missing", SheetsEdgesTest::sheets, Check.MISSING, x -> x.book(3, 0));
        edges.refused("missing, range 2", SheetsEdgesTest::sheets, Check.MISSING, x -> x.book(3, 2));
        edges.refused("missing, range -1", SheetsEdgesTest::sheets, Check.MISSING, x -> x.book(3, -1));
    }

    private static void promise37FromNoneToForty() {
        edges.asked("no numbers", SheetsEdgesTest::sheets, 0, x -> x.book(2, 1));
        for (int bits : BITS) {
            MountainFile x = sheets();
            x.sheet(3, bits, 1);
            check.due("one", x.book(3, 1), 1);
            checkRow("now", x, 3, 3);
            x.sheet(3, bits, 40);
            check.due("forty", x.book(3, 1), 40);
            long[] cells = new long[40];
            for (int i = 0; i < 40; i++) {
                cells[i] = (3 + i) % 24;
            }
            checkRow("round", x, 3, cells);
            check.due("season", x.now(0), 0);
        }
    }

    private static void promise37InPlaceOfWhatWasThere() {
        MountainFile x = sheets();
        check.due("five", x.book(0, 1), 5);
        checkRow("in sheet 0", x, 0, 3, 4, 5, 6, 7);
    }

    private static void promise37FromTheLastSeasonOn() {
        MountainFile x = Check.inSeason(9999);
        x.range(0, 22);
        x.sheet(0, 8, 3);
        check.due("three", x.book(0, 0), 3);
        checkRow("on from 9999", x, 0, 22, 0, 2);
    }

    // ---- promise 38: read

    private static void promise38SheetsAndRanges() {
        edges.bounds("read(v, 0)", Lands::full, 0, 3, (x, v) -> x.read(v, 0));
        edges.bounds("read(0, v)", Lands::full, 0, 7, (x, v) -> x.read(0, v));
        edges.bounds("read(0, v)", Lands::some, 0, 2, (x, v) -> x.read(0, v));
        edges.refused("there is none", SheetsEdgesTest::nobody, Check.BEYOND, x -> x.read(0, 0));
        edges.refused("none, by no numbers", SheetsEdgesTest::sheets, Check.BEYOND, x -> x.read(2, 2));
    }

    private static void promise38FindingsInTheirOrder() {
        edges.refused("sheet -1, range 2", SheetsEdgesTest::sheets, Check.BEYOND, x -> x.read(-1, 2));
        edges.refused("sheet 4, range -1", SheetsEdgesTest::sheets, Check.BEYOND, x -> x.read(4, -1));
        edges.refused("missing", SheetsEdgesTest::sheets, Check.MISSING, x -> x.read(3, 0));
        edges.refused("missing, range 2", SheetsEdgesTest::sheets, Check.MISSING, x -> x.read(3, 2));
        edges.refused("missing, range -1", SheetsEdgesTest::sheets, Check.MISSING, x -> x.read(3, -1));
    }

    private static void promise38AllPairsAndNone() {
        edges.asked("no numbers", SheetsEdgesTest::sheets, 190, x -> x.read(2, 0));
        edges.asked("where it is now", () -> told(20), 190, x -> x.read(3, 0));
        edges.asked("where it isn't", () -> told(21), 0, x -> x.read(3, 0));
        edges.asked("no such cell", () -> told(24), 0, x -> x.read(3, 0));
        edges.asked("below 0", () -> told(-1), 0, x -> x.read(3, 0));
        edges.asked("its cell and 2 by 32", () -> told((1L << 32) + 20), 0, x -> x.read(3, 0));
    }

    /** Sheet 3, of 64 bits, tells these; range 0 is in 20 and alone on its way. */
    private static MountainFile told(long... numbers) {
        MountainFile x = sheets();
        x.sheet(3, 64, numbers.length);
        for (int i = 0; i < numbers.length; i++) {
            x.write(3, i, numbers[i]);
        }
        return x;
    }

    private static void promise38FromNoHasteToMost() {
        edges.asked("stride 1", () -> told(20, 21), 0, x -> x.read(3, 0));
        edges.asked("stride 2: haste 0 to 2", () -> told(20, 22), 3 * 19, x -> x.read(3, 0));
        edges.asked("stride 4: haste 6 to 8", () -> told(20, 0), 3 * 19, x -> x.read(3, 0));
        edges.asked("stride 5: haste 9", () -> told(20, 1), 19, x -> x.read(3, 0));
        edges.asked("stride 6", () -> told(20, 2), 0, x -> x.read(3, 0));
        edges.asked("the last number counts", () -> told(20, 22, 0, 3), 0, x -> x.read(3, 0));
    }

    /**
     * Range 1 is right ahead of 0, a peak, which goes only if 1 goes first: if
     * the weights of numbers and of cells come to less than 0 together.
     */
    private static MountainFile manners(int weightOfCell, int cellThen) {
        MountainFile x = new MountainFile();
        x.range(2, 4);
        x.range(0, 5);
        x.order(3, weightOfCell);
        x.sheet(0, 16, 2);
        x.write(0, 0, 4);
        x.write(0, 1, cellThen);
        return x;
    }

    /** A peak goes one cell with haste 0 to 5, two with more. */
    private static void promise38FromTheLeastWeightToTheMost() {
        edges.asked("the least alone", () -> manners(8, 5), 6, x -> x.read(0, 0));
        edges.asked("the least alone, two cells", () -> manners(8, 6), 4, x -> x.read(0, 0));
        edges.asked("none", () -> manners(9, 5), 0, x -> x.read(0, 0));
        edges.asked("all but the most", () -> manners(-9, 5), 6 * 18, x -> x.read(0, 0));
        edges.asked("the most alone", () -> manners(-9, 4), 10, x -> x.read(0, 0));
        edges.asked("all", () -> manners(9, 4), 190, x -> x.read(0, 0));
    }

    private static void promise38ItsOwnHasteAndWeightStay() {
        MountainFile x = told(20, 22);
        x.set(0, 2, 7);
        x.order(0, -4);
        check.due("pairs", x.read(3, 0), 3 * 19);
        check.due("haste", x.of(0, 2), 7);
        check.due("weight", x.order(0, 0), -4);
    }

    private static void promise38FortyNumbers() {
        MountainFile x = sheets();
        x.sheet(3, 8, 40);
        x.book(3, 0);
        int pairs = x.read(3, 0);
        check.holds("what was booked comes by its own pair, too", pairs >= 1);
        x.write(3, 39, x.write(3, 39, 0) + 1);
        check.due("the last is wrong", x.read(3, 0), 0);
    }
}
