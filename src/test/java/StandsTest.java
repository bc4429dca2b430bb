/** Promises 19 to 22: who waits on whom, who stands, who is in the way. */
public final class StandsTest {
    private static final Check check = new Check();

    public static void main(String[] args) {
        promise19Stands();
        promise19Eighty();
        promise20Ahead();
        promise21File();
        promise22Frees();
        promise22Numbers();
        check.end();
    }

    private static void promise19Stands() {
        MountainFile x = new MountainFile();
        check.due("nobody", x.stands(), 0);
        x.range(0, 5);
        x.range(0, 4);
        x.range(0, 12);
        check.due("all go", x.stands(), 0);
        x.pass(6, 9, 0);
        // 2 comes round up to 3 and has gone by then.
        check.due("two stand", x.stands(), 3);
        x.seasons(20);
        check.due("steps from before count not", x.stands(), 7);
        x.pass(6, 9, 1);
        check.due("open now and then", x.stands(), 0);
    }

    /**
     * Five glaciers in a row, the hindmost going first, before passes that open
     * each ninth season: they go in seasons 45, 72, 81, 108, 117, one each.
     */
    private static void promise19Eighty() {
        for (int season = 37; season <= 38; season++) {
            MountainFile x = Check.inSeason(season);
            for (int r = 0; r < 5; r++) {
                x.range(3, r);
                x.pass(r + 1, 9, 1);
            }
            check.due("from season " + season + " on", x.stands(), season == 37 ? 1 : 0);
        }
    }

    private static void promise20Ahead() {
        MountainFile x = new MountainFile();
        x.range(0, 23);
        check.due("nobody", x.ahead(0), -1);
        x.range(0, 1);
        check.due("two cells on", x.ahead(0), -1);
        x.range(0, 0);
        check.due("round", x.ahead(0), 2);
        check.due("next", x.ahead(2), 1);
        x.pass(0, 2, 1);
        check.due("open", x.ahead(0), 2);
        x.pass(0, 2, 0);
        check.due("shut", x.ahead(0), -1);
        check.due("own cell may be shut", x.ahead(2), 1);
        check.due("range -1", x.ahead(-1), Check.BEYOND);
        check.due("range 3", x.ahead(3), Check.BEYOND);
        check.due("nobody is no finding", x.status(-1), 2);
    }

    private static void promise21File() {
        MountainFile x = new MountainFile();
        x.range(0, 22);
        check.due("alone", x.file(0), 1);
        x.range(0, 1);
        x.range(0, 23);
        x.range(0, 0);
        x.range(0, 3);
        check.due("all in a row", x.file(0), 1 | 2 | 4 | 8);
        check.due("from the third on", x.file(3), 8 | 2);
        check.due("the first", x.file(1), 2);
        check.due("apart", x.file(4), 16);
        x.pass(0, 2, 0);
        check.due("up to the shut cell", x.file(0), 1 | 4);
        check.due("behind it", x.file(3), 8 | 2);
        check.due("range -1", x.file(-1), Check.BEYOND);
        check.due("range 5", x.file(5), Check.BEYOND);
        MountainFile y = new MountainFile();
        for (int r = 0; r < 8; r++) {
            y.range(0, r);
        }
        check.due("eight", y.file(0), 255);
    }

    private static void promise22Frees() {
        MountainFile x = new MountainFile();
        check.due("nobody", x.frees(), Check.NONE);
        x.range(0, 5);
        check.due("nobody stands", x.frees(), Check.NONE);
        x.pass(6, 2, 0);
        check.due("the only one", x.frees(), 0);
        x.set(0, 1, 3);
        x.range(0, 4);
        x.range(0, 5);
        check.due("all stand", x.stands(), 7);
        check.due("the foremost", x.frees(), 2);
        check.due("nothing changed", x.count(0), 3);
        MountainFile y = new MountainFile();
        y.pass(6, 2, 0);
        y.pass(11, 2, 0);
        y.range(0, 10);
        y.range(0, 5);
        check.due("of several the least", y.frees(), 0);
        check.due("NONE counted", x.status(3), 2);
    }

    /** Those left bear other numbers, but each is held against its own steps. */
    private static void promise22Numbers() {
        MountainFile x = new MountainFile();
        x.pass(6, 2, 0);
        x.pass(12, 2, 0);
        x.range(2, 20);
        x.range(0, 3);
        x.range(0, 7);
        x.seasons(3);
        // They have gone 3, 2 and 4 cells; 0 goes on, up to the cell behind 1.
        check.due("two stand", x.stands(), 6);
        check.due("0 levelled lets both stand", x.frees(), 1);
        MountainFile y = new MountainFile();
        y.pass(8, 9, 1);
        y.range(2, 7);
        y.range(2, 6);
        y.pass(9, 2, 0);
        y.pass(23, 2, 0);
        y.range(2, 22);
        y.seasons(8);
        y.pass(8, 2, 0);
        // 0 went to 8 and 1 to 7, each before a shut cell: none is in the way.
        check.due("three stand", y.stands(), 7);
        check.due("each lets two stand", y.frees(), 0);
    }
}
