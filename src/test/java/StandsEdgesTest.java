/** The edges that promises 19 to 22 name: who waits on whom, who stands for good. */
public final class StandsEdgesTest {
    private static final Check check = new Check();
    private static final Edges edges = new Edges(check);

    public static void main(String[] args) throws ReflectiveOperationException {
        check.runPromises(StandsEdgesTest.class);
        check.end();
    }

    /** Eight in a row, 0 to 7 from cell 16 on, so that the foremost is in 23. */
    private static MountainFile row() {
        MountainFile x = new MountainFile();
        for (int r = 0; r < 8; r++) {
            x.range(0, 16 + r);
        }
        return x;
    }

    /** The same row, and cell 0 is shut for good. */
    private static MountainFile shutRow() {
        MountainFile x = row();
        x.pass(0, 2, 0);
        return x;
    }

    /** The other way: 0 is the foremost, in 23, before a cell that is shut for good. */
    private static MountainFile shutRowTurned() {
        MountainFile x = new MountainFile();
        for (int r = 0; r < 8; r++) {
            x.range(0, 23 - r);
        }
        x.pass(0, 2, 0);
        return x;
    }

    // ---- promise 19: stands

    private static void promise19NobodyAndAll() {
        edges.asked("in an empty land", Lands::empty, 0, x -> x.stands());
        edges.asked("of eight that go", StandsEdgesTest::row, 0, x -> x.stands());
        edges.asked("of eight that stand", StandsEdgesTest::shutRow, 255, x -> x.stands());
    }

    private static void promise19TheFirstAndTheLastOfTheSet() {
        MountainFile x = shutRow();
        for (int r = 0; r < 7; r++) {
            x.set(r, 1, 2 + 2 * r);
        }
        check.due("only 7", x.stands(), 1 << 7);
        MountainFile y = shutRowTurned();
        for (int r = 1; r < 8; r++) {
            y.set(r, 1, 2 * r);
        }
        check.due("only 0", y.stands(), 1);
    }

    /**
     * Five glaciers in a row, the hindmost going first, before passes that open
     * each ninth season: they go in seasons 45, 72, 81, 108 and 117, one each.
     */
    private static MountainFile glaciers(int season) {
        MountainFile x = Check.inSeason(season);
        for (int r = 0; r < 5; r++) {
            x.range(3, r);
            x.pass(r + 1, 9, 1);
        }
        return x;
    }

    private static void promise19InTheEightiethSeasonOrLater() {
        edges.asked("it goes in the eightieth", () -> glaciers(38), 0, x -> x.stands());
        edges.asked("it goes in the eighty-first", () -> glaciers(37), 1, x -> x.stands());
    }

    private static void promise19WhoComesRoundToItsCellHasGone() {
        edges.asked("a hill goes ten rounds", StandsEdgesTest::hill, 0, x -> x.stands());
        check.due("and is where it was", hill().on(0, 80, 0), 0);
    }

    private static MountainFile hill() {
        MountainFile x = new MountainFile();
        x.range(1, 0);
        return x;
    }

    private static void promise19ACellIsEnough() {
        MountainFile x = shutRow();
        x.level(0);
        x.set(0, 1, 16);
        check.due("one cell is free", x.stands(), 127 - 1);
    }

    private static void promise19FromTheLastSeasonOn() {
        MountainFile x = Check.inSeason(9999);
        x.range(0, 0);
        x.range(0, 12);
        x.pass(13, 9, 0);
        check.due("who stands", x.stands(), 2);
    }

    // ---- promise 20: ahead

    private static void promise20Ranges() {
        edges.bounds("ahead(v)", Lands::some, 0, 2, (x, v) -> x.ahead(v));
        edges.bounds("ahead(v)", Lands::full, 0, 7, (x, v) -> x.ahead(v));
        edges.refused("there is none", Lands::empty, Check.BEYOND, x -> x.ahead(0));
    }

    private static void promise20WhoIsNext() {
        edges.asked("the next one", StandsEdgesTest::row, 1, x -> x.ahead(0));
        edges.asked("the last one", StandsEdgesTest::row, 7, x -> x.ahead(6));
        edges.asked("nobody", StandsEdgesTest::row, -1, x -> x.ahead(7));
        edges.asked("number 0", StandsEdgesTest::shutRowTurned, 0, x -> x.ahead(1));
        edges.asked("nobody, nor is it open", StandsEdgesTest::shutRow, -1, x -> x.ahead(7));
    }

    private static void promise20BehindCell23Comes0() {
        MountainFile x = Lands.empty();
        x.range(0, 23);
        x.range(0, 0);
        check.due("round", x.ahead(0), 1);
        check.due("not the other way", x.ahead(1), -1);
        x.set(1, 1, 1);
        check.due("two on is not next", x.ahead(0), -1);
    }

    private static void promise20ThatCellIsShutNow() {
        MountainFile x = Lands.empty();
        x.range(3, 4);
        x.range(3, 5);
        x.pass(5, 3, 2);
        x.pass(4, 2, 0);
        // They are glaciers before a shut cell: they stay as seasons go.
        x.pass(6, 2, 0);
        int[] due = {1, 1, -1, 1, 1, -1, 1};
        for (int season = 0; season < due.length; season++) {
            check.due("in season " + season, x.ahead(0), due[season]);
            x.seasons(1);
        }
        check.due("shut is no finding", x.status(-1), 0);
    }

    // ---- promise 21: file

    private static void promise21Ranges() {
        edges.bounds("file(v)", Lands::some, 0, 2, (x, v) -> x.file(v));
        edges.bounds("file(v)", Lands::full, 0, 7, (x, v) -> x.file(v));
        edges.refused("there is none", Lands::empty, Check.BEYOND, x -> x.file(0));
    }

    private static void promise21FromOneToEight() {
        for (int r = 0; r < 8; r++) {
            int range = r;
            edges.asked("from " + r + " on", StandsEdgesTest::row, 255 - ((1 << r) - 1), x -> x.file(range));
            edges.asked("turned, from " + r + " on", StandsEdgesTest::shutRowTurned, (2 << r) - 1, x -> x.file(range));
        }
    }

    private static void promise21Round() {
        MountainFile x = row();
        for (int r = 0; r < 4; r++) {
            x.set(r, 1, r);
        }
        check.due("over 23 to 0", x.file(4), 255);
        check.due("from 23 on", x.file(7), 128 | 15);
        check.due("from 0 on", x.file(0), 15);
    }

    private static void promise21UpToAShutCellOrAGap() {
        MountainFile x = row();
        x.pass(20, 2, 1);
        check.due("open", x.file(0), 255);
        x.pass(20, 2, 0);
        check.due("shut", x.file(0), 15);
        check.due("from the shut one on", x.file(4), 240);
        x.pass(20, 0, 0);
        x.level(4);
        check.due("a gap", x.file(0), 15);
        check.due("behind the gap", x.file(4), 16 | 32 | 64);
    }

    // ---- promise 22: frees

    private static void promise22Nobody() {
        edges.refused("in an empty land", Lands::empty, Check.NONE, x -> x.frees());
        edges.refused("of one that goes", StandsEdgesTest::hill, Check.NONE, x -> x.frees());
        edges.refused("of eight that go", StandsEdgesTest::row, Check.NONE, x -> x.frees());
    }

    private static void promise22TheFirstAndTheLast() {
        edges.asked("the foremost is 7", StandsEdgesTest::shutRow, 7, x -> x.frees());
        edges.asked("the foremost is 0", StandsEdgesTest::shutRowTurned, 0, x -> x.frees());
        edges.asked("one alone", StandsEdgesTest::alone, 0, x -> x.frees());
    }

    private static MountainFile alone() {
        MountainFile x = new MountainFile();
        x.range(0, 23);
        x.pass(0, 2, 0);
        return x;
    }

    private static void promise22OfSeveralTheLeast() {
        MountainFile x = Lands.empty();
        for (int r = 0; r < 8; r++) {
            x.range(0, 3 * r);
            x.pass(3 * r + 1, 2, 0);
        }
        check.due("all stand", x.stands(), 255);
        check.due("any lets seven stand", x.frees(), 0);
        // Now 0 goes, up to the cell behind 1, and any other lets six stand.
        x.pass(1, 0, 0);
        check.due("seven stand", x.stands(), 254);
        check.due("the least that lets fewer stand", x.frees(), 1);
    }

    private static void promise22FewestNotOnlyFewer() {
        MountainFile x = Lands.empty();
        x.range(0, 3);
        x.pass(4, 2, 0);
        x.range(0, 9);
        x.range(0, 10);
        x.pass(11, 2, 0);
        check.due("all stand", x.stands(), 7);
        // Without 0 two stand, without 1 two, without 2 only 0.
        check.due("the best", x.frees(), 2);
    }

    /**
     * Those behind the levelled one bear lesser numbers then, and each is held
     * against its own steps: by those of its neighbours it would seem to go.
     */
    private static void promise22EachByItsOwnSteps() {
        MountainFile x = Lands.empty();
        for (int r = 0; r < 8; r++) {
            x.range(2, 3 * r);
            x.seasons(1);
        }
        // Range r went 8 - r cells and is in 2 r + 8.
        for (int r = 0; r < 8; r++) {
            check.due("steps", x.of(r, 3), 8 - r);
            x.pass(2 * r + 9, 2, 0);
        }
        check.due("all stand", x.stands(), 255);
        check.due("any lets seven stand", x.frees(), 0);
        x.pass(9, 0, 0);
        check.due("seven stand", x.stands(), 254);
        check.due("0 lets seven stand, any other six", x.frees(), 1);
        for (int r = 7; r > 1; r--) {
            x.level(r);
        }
        check.due("only 1 stands", x.stands(), 2);
        check.due("0 lets it stand", x.frees(), 1);
    }

    private static void promise22InTheEightiethSeasonOrLater() {
        edges.refused("it goes in the eightieth", () -> glaciers(38), Check.NONE, x -> x.frees());
        edges.asked("it goes in the eighty-first", () -> glaciers(37), 0, x -> x.frees());
    }

    /** The glaciers, and range 5 that stands for good, far from the one that goes last. */
    private static MountainFile glaciersAndOne(int season) {
        MountainFile x = glaciers(season);
        x.range(0, 12);
        x.pass(13, 2, 0);
        return x;
    }

    private static void promise22ThoseLeftGoInTheEightiethSeasonOrLater() {
        check.due("5 alone stands", glaciersAndOne(38).stands(), 1 << 5);
        edges.asked("without it none does", () -> glaciersAndOne(38), 5, x -> x.frees());
        check.due("0 stands, too", glaciersAndOne(37).stands(), 1 << 5 | 1);
        edges.asked("without either the other one does", () -> glaciersAndOne(37), 0, x -> x.frees());
    }
}
