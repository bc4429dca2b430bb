/** The edges that promises 23 to 29 name: haste, orders, starts, kinds, swaps, journeys. */
public final class OrdersEdgesTest {
    private static final Check check = new Check();
    private static final Edges edges = new Edges(check);

    public static void main(String[] args) throws ReflectiveOperationException {
        check.runPromises(OrdersEdgesTest.class);
        check.end();
    }

    /** One of stride 2 to 5, by its haste, that went for five seasons already. */
    private static MountainFile alone() {
        MountainFile x = new MountainFile();
        x.range(0, 0);
        x.set(0, 2, 9);
        x.seasons(5);
        return x;
    }

    // ---- promise 23: haste

    private static void promise23RangesWaysAndSeasons() {
        edges.bounds("haste(v, 1, 1)", Lands::some, 0, 2, (x, v) -> x.haste(v, 1, 1));
        edges.bounds("haste(v, 1, 1)", Lands::full, 0, 7, (x, v) -> x.haste(v, 1, 1));
        edges.bounds("haste(0, v, 40)", Lands::some, 0, 999, (x, v) -> x.haste(0, v, 40));
        edges.bounds("haste(0, 0, v)", Lands::some, 0, 40, (x, v) -> x.haste(0, 0, v));
        edges.refused("there is none", Lands::empty, Check.BEYOND, x -> x.haste(0, 0, 0));
    }

    private static void promise23BeyondIsAskedAheadOfNone() {
        edges.refused("no such one", OrdersEdgesTest::alone, Check.BEYOND, x -> x.haste(1, 999, 0));
        edges.refused("1000 cells", OrdersEdgesTest::alone, Check.BEYOND, x -> x.haste(0, 1000, 40));
        edges.refused("41 seasons", OrdersEdgesTest::alone, Check.BEYOND, x -> x.haste(0, 999, 41));
        edges.refused("-1 seasons", OrdersEdgesTest::alone, Check.BEYOND, x -> x.haste(0, 999, -1));
    }

    private static void promise23FromNoHasteToMost() {
        int[] ways = {0, 1, 80, 81, 120, 121, 160, 161, 200};
        int[] hastes = {0, 0, 0, 3, 3, 6, 6, 9, 9};
        for (int i = 0; i < ways.length; i++) {
            int d = ways[i];
            edges.asked(d + " cells in forty", OrdersEdgesTest::alone, hastes[i], x -> x.haste(0, d, 40));
        }
        edges.refused("201 cells in forty", OrdersEdgesTest::alone, Check.NONE, x -> x.haste(0, 201, 40));
        edges.refused("999 cells in forty", OrdersEdgesTest::alone, Check.NONE, x -> x.haste(0, 999, 40));
    }

    private static void promise23InNoSeasons() {
        edges.asked("no cells", OrdersEdgesTest::alone, 0, x -> x.haste(0, 0, 0));
        edges.refused("one cell", OrdersEdgesTest::alone, Check.NONE, x -> x.haste(0, 1, 0));
    }

    private static void promise23WhoStandsGoesNoCell() {
        edges.asked("no cells", OrdersEdgesTest::standing, 0, x -> x.haste(0, 0, 40));
        edges.refused("one cell", OrdersEdgesTest::standing, Check.NONE, x -> x.haste(0, 1, 40));
    }

    /** Range 0 goes first by any haste up to that of 1, who is right ahead of it. */
    private static MountainFile behind(int hasteOfOther) {
        MountainFile x = new MountainFile();
        x.range(0, 0);
        x.range(0, 1);
        x.set(1, 2, hasteOfOther);
        x.order(1, 1);
        return x;
    }

    private static void promise23MoreThanNineIsNoHaste() {
        edges.asked("more than eight", () -> behind(8), 9, x -> x.haste(0, 1, 1));
        edges.refused("more than nine", () -> behind(9), Check.NONE, x -> x.haste(0, 1, 1));
    }

    private static MountainFile standing() {
        MountainFile x = new MountainFile();
        x.range(0, 23);
        x.pass(0, 2, 0);
        return x;
    }

    // ---- promise 24: best

    private static void promise24WhatsAndSeasons() {
        edges.bounds("best(v, 1)", Lands::some, 0, 3, (x, v) -> x.best(v, 1));
        edges.bounds("best(v, 40)", Lands::empty, 0, 3, (x, v) -> x.best(v, 40));
        edges.bounds("best(0, v)", Lands::some, 0, 40, (x, v) -> x.best(0, v));
        edges.bounds("best(3, v)", Lands::full, 0, 40, (x, v) -> x.best(3, v));
        edges.refused("best(4, 41)", Lands::some, Check.BEYOND, x -> x.best(4, 41));
    }

    private static void promise24OfSeveralTheLeast() {
        for (int what = 0; what <= 3; what++) {
            int w = what;
            edges.asked("nobody", Lands::empty, -9, x -> x.best(w, 40));
            edges.asked("no seasons", Lands::full, -9, x -> x.best(w, 0));
            edges.asked("one alone", OrdersEdgesTest::alone, -9, x -> x.best(w, 40));
        }
    }

    /**
     * Range 1 is right ahead of 0, which has haste 1: so 1 has to go first, and
     * does if the weight of haste is above that of numbers.
     */
    private static MountainFile manners(int weightOfNumber) {
        MountainFile x = new MountainFile();
        x.range(0, 23);
        x.range(0, 0);
        x.set(0, 2, 1);
        x.order(0, weightOfNumber);
        x.order(1, -3);
        return x;
    }

    private static void promise24FromTheLeastWeightToTheMost() {
        edges.asked("from -8 on", () -> manners(-9), -8, x -> x.best(1, 1));
        edges.asked("from 0 on", () -> manners(-1), 0, x -> x.best(1, 1));
        edges.asked("from 1 on", () -> manners(0), 1, x -> x.best(1, 1));
        edges.asked("from 8 on", () -> manners(7), 8, x -> x.best(1, 1));
        edges.asked("the most alone", () -> manners(8), 9, x -> x.best(1, 1));
        edges.asked("none is enough", () -> manners(9), -9, x -> x.best(1, 1));
    }

    /** Cell 2 opens in season 9; by a weight of numbers below 0 the hindmost, 1, goes first then, and waits. */
    private static MountainFile beforeNine(int season) {
        MountainFile x = Check.inSeason(season);
        x.range(0, 1);
        x.range(0, 0);
        x.pass(2, 9, 1);
        return x;
    }

    private static void promise24SoManySeasonsAndNoneMore() {
        edges.asked("no seasons", () -> beforeNine(9), -9, x -> x.best(0, 0));
        edges.asked("one", () -> beforeNine(9), 0, x -> x.best(0, 1));
        edges.asked("four, all shut", () -> beforeNine(5), -9, x -> x.best(0, 4));
        edges.asked("five", () -> beforeNine(5), 0, x -> x.best(0, 5));
    }

    // ---- promise 25: start

    private static void promise25RangesAndSeasons() {
        edges.bounds("start(v, 1)", Lands::some, 0, 2, (x, v) -> x.start(v, 1));
        edges.bounds("start(v, 40)", Lands::full, 0, 7, (x, v) -> x.start(v, 40));
        edges.bounds("start(0, v)", Lands::some, 0, 40, (x, v) -> x.start(0, v));
        edges.refused("there is none", Lands::empty, Check.BEYOND, x -> x.start(0, 0));
        edges.refused("start(3, 41)", Lands::some, Check.BEYOND, x -> x.start(3, 41));
    }

    private static void promise25TheFirstAndTheLastCell() {
        edges.asked("all are alike", OrdersEdgesTest::alone, 0, x -> x.start(0, 40));
        edges.asked("the last is best", () -> openOnly(0, 1), 23, x -> x.start(0, 40));
        edges.asked("the first is best", () -> openOnly(1, 2), 0, x -> x.start(0, 40));
        edges.asked("no seasons", () -> openOnly(0, 1), 0, x -> x.start(0, 0));
    }

    /** Range 0 in cell 12; all cells but two are shut for good. */
    private static MountainFile openOnly(int one, int other) {
        MountainFile x = new MountainFile();
        x.range(0, 12);
        for (int c = 0; c < 24; c++) {
            if (c != one && c != other) {
                x.pass(c, 2, 0);
            }
        }
        return x;
    }

    private static void promise25NotWhereAnotherOneIs() {
        edges.asked("of the first", OrdersEdgesTest::rowFromZero, 0, x -> x.start(0, 0));
        edges.asked("of the second: its own", OrdersEdgesTest::rowFromZero, 1, x -> x.start(1, 0));
        edges.asked("of the last: its own", OrdersEdgesTest::rowFromZero, 7, x -> x.start(7, 0));
        MountainFile x = rowFromZero();
        x.set(7, 1, 23);
        check.due("the least that is free", x.start(7, 0), 7);
        x.set(0, 1, 22);
        check.due("the least is free", x.start(7, 0), 0);
    }

    /** Only from the last cell it could go, but another one is there. */
    private static void promise25NotTheLastCellWhereAnotherOneIs() {
        MountainFile x = openOnly(0, 0);
        x.range(2, 23);
        check.due("all others are alike", x.start(0, 1), 0);
        x.set(1, 1, 22);
        check.due("the last is free", x.start(0, 1), 23);
    }

    private static MountainFile rowFromZero() {
        MountainFile x = new MountainFile();
        for (int r = 0; r < 8; r++) {
            x.range(0, r);
        }
        return x;
    }

    // ---- promise 26: kind

    private static void promise26RangesAndSeasons() {
        edges.bounds("kind(v, 1)", Lands::some, 0, 2, (x, v) -> x.kind(v, 1));
        edges.bounds("kind(v, 40)", Lands::full, 0, 7, (x, v) -> x.kind(v, 40));
        edges.bounds("kind(0, v)", Lands::some, 0, 40, (x, v) -> x.kind(0, v));
        edges.refused("there is none", Lands::empty, Check.BEYOND, x -> x.kind(0, 0));
        edges.refused("kind(3, 41)", Lands::some, Check.BEYOND, x -> x.kind(3, 41));
    }

    private static void promise26TheFirstAndTheLastKind() {
        edges.asked("no seasons", () -> twins(3), 0, x -> x.kind(0, 0));
        edges.asked("who stands", OrdersEdgesTest::standing, 0, x -> x.kind(0, 40));
        edges.asked("a hill", () -> twins(0), 1, x -> x.kind(0, 1));
        edges.asked("of several the least", () -> twins(2), 1, x -> x.kind(0, 1));
        edges.asked("a twin of three others", () -> twins(3), 5, x -> x.kind(0, 1));
        edges.asked("a twin of seven others", () -> twins(7), 5, x -> x.kind(0, 1));
    }

    /** Range 0 is a peak in cell 12; so many twins are behind it. */
    private static MountainFile twins(int n) {
        MountainFile x = new MountainFile();
        x.range(2, 12);
        for (int i = 1; i <= n; i++) {
            x.range(5, 12 - i);
        }
        return x;
    }

    // ---- promise 27: swap

    private static void promise27Seasons() {
        edges.bounds("swap(v)", Lands::some, 0, 40, (x, v) -> x.swap(v));
        edges.bounds("swap(v)", Lands::full, 0, 40, (x, v) -> x.swap(v));
    }

    private static void promise27BeyondIsAskedAheadOfNone() {
        edges.bounds("swap(v) of nobody", Lands::empty, 0, 40, (x, v) -> x.swap(v));
        edges.refused("swap(41) of nobody", Lands::empty, Check.BEYOND, x -> x.swap(41));
    }

    private static void promise27NobodyAndOneAlone() {
        edges.refused("nobody", Lands::empty, Check.NONE, x -> x.swap(40));
        edges.refused("one alone", OrdersEdgesTest::alone, Check.NONE, x -> x.swap(40));
    }

    private static void promise27MoreThanAsItIs() {
        edges.refused("no seasons", () -> pair(0), Check.NONE, x -> x.swap(0));
        edges.refused("as many", OrdersEdgesTest::rowFromZeroTurned, Check.NONE, x -> x.swap(1));
    }

    private static MountainFile rowFromZeroTurned() {
        MountainFile x = new MountainFile();
        for (int r = 0; r < 8; r++) {
            x.range(0, 7 - r);
        }
        return x;
    }

    /**
     * In winter, so many glaciers before shut cells; then one of stride 5 right
     * behind a peak that goes after it. Only these two should change places.
     */
    private static MountainFile pair(int glaciers) {
        MountainFile x = Check.inSeason(2);
        for (int r = 0; r < glaciers; r++) {
            x.range(3, 2 * r);
            x.pass(2 * r + 1, 2, 0);
        }
        x.range(0, 12);
        x.set(glaciers, 2, 9);
        x.range(2, 13);
        return x;
    }

    private static void promise27TheFirstAndTheLastTwo() {
        for (int glaciers = 0; glaciers <= 6; glaciers++) {
            int first = glaciers;
            edges.asked("the last two of " + (first + 2), () -> pair(first), 10 * first + first + 1, x -> x.swap(1));
        }
    }

    private static void promise27OfSeveralTheLeast() {
        MountainFile x = Lands.empty();
        x.range(2, 0);
        x.range(2, 10);
        x.range(0, 20);
        x.range(2, 21);
        x.pass(22, 2, 0);
        // The range goes 2 in place of either peak, 0 or 1, that goes 1.
        check.due("0 and 2", x.swap(1), 2);
    }

    // ---- promise 28: journey

    private static void promise28Cells() {
        edges.bounds("journey(v, 5)", Lands::some, 0, 23, (x, v) -> x.journey(v, 5));
        edges.bounds("journey(5, v)", Lands::some, 0, 23, (x, v) -> x.journey(5, v));
        edges.bounds("journey(v, v)", Lands::empty, 0, 23, (x, v) -> x.journey(v, v));
        edges.refused("journey(-1, 24)", Lands::full, Check.BEYOND, x -> x.journey(-1, 24));
    }

    private static void promise28BeyondIsAskedAheadOfNone() {
        edges.refused("from 24 to where none comes", OrdersEdgesTest::standing, Check.BEYOND, x -> x.journey(24, 0));
        edges.refused("from -1 to where none comes", OrdersEdgesTest::standing, Check.BEYOND, x -> x.journey(-1, 0));
    }

    private static void promise28ToWhereOneIs() {
        for (int c = 0; c < 24; c++) {
            check.due("from " + c + " to it", Lands.full().journey(c, c), 0);
        }
        edges.asked("in a shut cell", OrdersEdgesTest::standing, 0, x -> x.journey(0, 0));
        edges.asked("where somebody is", OrdersEdgesTest::standing, 0, x -> x.journey(23, 23));
    }

    private static void promise28Round() {
        edges.asked("to the next", Lands::empty, 1, x -> x.journey(0, 1));
        edges.asked("over 23 to 0", Lands::empty, 1, x -> x.journey(23, 0));
        edges.asked("all round", Lands::empty, 23, x -> x.journey(0, 23));
        edges.asked("all round from 1", Lands::empty, 23, x -> x.journey(1, 0));
    }

    /** The walker goes into cell m in season 9 m. */
    private static MountainFile slow(int season) {
        MountainFile x = Check.inSeason(season);
        for (int c = 1; c <= 10; c++) {
            x.pass(c, 9, 1);
        }
        return x;
    }

    private static void promise28UpToEighty() {
        edges.asked("in seventy-nine", () -> slow(3), 79, x -> x.journey(0, 9));
        edges.asked("in eighty", () -> slow(2), 80, x -> x.journey(0, 9));
        edges.refused("in eighty-one", () -> slow(1), Check.NONE, x -> x.journey(0, 9));
    }

    private static void promise28OpenAndFreeThen() {
        edges.refused("never open", OrdersEdgesTest::standing, Check.NONE, x -> x.journey(23, 0));
        edges.refused("never free", OrdersEdgesTest::standing, Check.NONE, x -> x.journey(22, 23));
        edges.asked("up to the one who stands", OrdersEdgesTest::standing, 21, x -> x.journey(1, 22));
        edges.asked("out of where one stands", OrdersEdgesTest::opening, 4, x -> x.journey(5, 6));
        MountainFile x = Lands.empty();
        x.range(2, 5);
        // He goes ahead of the peak, so its cell is free a season later.
        check.due("right behind a peak", x.journey(4, 5), 2);
        check.due("two behind a peak", x.journey(3, 5), 2);
        check.due("in its cell he goes ahead of it", x.journey(5, 6), 1);
    }

    /** In season 1; cell 6 opens each fourth season. */
    private static MountainFile opening() {
        MountainFile x = Check.inSeason(1);
        x.pass(6, 4, 1);
        return x;
    }

    private static void promise28FromTheLastSeasonOn() {
        edges.asked("on from 9999", () -> Check.inSeason(9999), 23, x -> x.journey(0, 23));
    }

    // ---- promise 29: sets

    private static void promise29Cells() {
        edges.bounds("sets(v, 5)", Lands::some, 0, 23, (x, v) -> x.sets(v, 5));
        edges.bounds("sets(5, v)", Lands::some, 0, 23, (x, v) -> x.sets(5, v));
        edges.bounds("sets(v, v)", Lands::empty, 0, 23, (x, v) -> x.sets(v, v));
        edges.refused("sets(24, -1)", Lands::full, Check.BEYOND, x -> x.sets(24, -1));
    }

    private static void promise29BeyondIsAskedAheadOfNone() {
        edges.refused("from 24 to where none comes", OrdersEdgesTest::standing, Check.BEYOND, x -> x.sets(24, 0));
        edges.refused("from -1 to where none comes", OrdersEdgesTest::standing, Check.BEYOND, x -> x.sets(-1, 0));
    }

    private static void promise29BehindNoneOfThem() {
        edges.refused("never open", OrdersEdgesTest::standing, Check.NONE, x -> x.sets(23, 0));
        edges.refused("never free", OrdersEdgesTest::standing, Check.NONE, x -> x.sets(22, 23));
    }

    private static void promise29OfSeveralTheFewest() {
        edges.asked("to where one is", OrdersEdgesTest::standing, 0, x -> x.sets(0, 0));
        edges.asked("alike behind all", Lands::empty, 0, x -> x.sets(0, 23));
        // One from 5 waits for season 4; behind 3, 7, 11, .. one needn't.
        edges.asked("the first of several", OrdersEdgesTest::opening, 3, x -> x.sets(5, 6));
    }

    /** Only in seasons 63 and 64 do the two open one right behind the other. */
    private static MountainFile twoPasses(int season) {
        MountainFile x = Check.inSeason(season);
        x.pass(1, 9, 1);
        x.pass(2, 8, 1);
        return x;
    }

    private static void promise29FromNoneToTwenty() {
        edges.asked("at once", () -> twoPasses(63), 0, x -> x.sets(0, 2));
        edges.asked("behind one", () -> twoPasses(62), 1, x -> x.sets(0, 2));
        edges.asked("behind nineteen", () -> twoPasses(44), 19, x -> x.sets(0, 2));
        edges.asked("behind twenty", () -> twoPasses(43), 20, x -> x.sets(0, 2));
        edges.asked("behind twenty-one is too late", () -> twoPasses(42), 12, x -> x.sets(0, 2));
    }

    /** From season 1 on it would take 81: as journey() tells it then, it is none. */
    private static void promise29AJourneyOfEightyOneIsNone() {
        edges.refused("journey", () -> slow(1), Check.NONE, x -> x.journey(0, 9));
        edges.asked("sets", () -> slow(1), 8, x -> x.sets(0, 9));
    }

    /** Found by trying: only behind 3 one comes there at all, in eighty. */
    private static void promise29AJourneyOfEightyIsOne() {
        int[] periods = {8, 9, 9, 9, 8, 9, 8, 8, 8, 9, 8, 9, 7, 9};
        MountainFile x = Check.inSeason(125);
        for (int i = 0; i < periods.length; i++) {
            x.pass(i + 1, periods[i], 1);
        }
        check.due("behind three", x.sets(0, 14), 3);
        x.seasons(3);
        check.due("eighty", x.journey(0, 14), 80);
    }

    /** Found by trying: only from season 25 on one comes to cell 12 at all, in eighty. */
    private static MountainFile twelvePasses(int season) {
        int[] periods = {9, 9, 9, 9, 9, 8, 8, 8, 9, 9, 9, 8};
        MountainFile x = Check.inSeason(season);
        for (int i = 0; i < periods.length; i++) {
            x.pass(i + 1, periods[i], 1);
        }
        return x;
    }

    private static void promise29AJourneyOfEightyBehindTwenty() {
        edges.asked("eighty", () -> twelvePasses(25), 80, x -> x.journey(0, 12));
        edges.asked("behind twenty", () -> twelvePasses(5), 20, x -> x.sets(0, 12));
        edges.refused("behind twenty-one is too late", () -> twelvePasses(4), Check.NONE, x -> x.sets(0, 12));
    }
}
