import java.util.function.Supplier;

/** The edges that promises 13 to 18 name: seasons that go by, and what will be. */
public final class SeasonsEdgesTest {
    private static final Check check = new Check();
    private static final Edges edges = new Edges(check);

    public static void main(String[] args) throws ReflectiveOperationException {
        check.runPromises(SeasonsEdgesTest.class);
        check.end();
    }

    /** A land with something of all, in a late season. */
    private static MountainFile late(int season) {
        MountainFile x = Check.inSeason(season);
        x.range(0, 0);
        x.range(3, 12);
        x.pass(6, 5, 4);
        x.village(3);
        x.image();
        x.sheet(0, 8, 3);
        Check.feedText(x, "free 6");
        return x;
    }

    // ---- promise 13: seasons

    private static void promise13FromOneToEighty() {
        edges.bounds("seasons(v)", Lands::empty, 1, 80, (x, v) -> x.seasons(v));
        edges.bounds("seasons(v)", Lands::some, 1, 80, (x, v) -> x.seasons(v));
        edges.bounds("seasons(v)", Lands::full, 1, 80, (x, v) -> x.seasons(v));
        MountainFile x = Lands.empty();
        x.seasons(1);
        check.due("one went", x.now(0), 1);
        x.seasons(80);
        check.due("eighty went", x.now(0), 81);
    }

    private static void promise13UpToSeason9999() {
        check.due("from 9919 eighty", season(9919, 80), 9999);
        check.due("from 9920 seventy-nine", season(9920, 79), 9999);
        check.due("from 9998 one", season(9998, 1), 9999);
    }

    private static int season(int from, int n) {
        MountainFile x = Check.inSeason(from);
        check.due("nobody goes", x.seasons(n), 0);
        return x.now(0);
    }

    private static void promise13AboveSeason9999() {
        edges.refused("from 9920 eighty", () -> late(9920), Check.STATE, x -> x.seasons(80));
        edges.refused("from 9998 two", () -> late(9998), Check.STATE, x -> x.seasons(2));
        edges.refused("from 9999 one", () -> late(9999), Check.STATE, x -> x.seasons(1));
        edges.refused("from 9999 eighty", () -> late(9999), Check.STATE, x -> x.seasons(80));
    }

    private static void promise13BeyondIsAskedAheadOfState() {
        for (int n : new int[] {Integer.MIN_VALUE, -1, 0, 81, 10000, Integer.MAX_VALUE}) {
            edges.refused("from 9999 " + n, () -> late(9999), Check.BEYOND, x -> x.seasons(n));
        }
    }

    private static void promise13BackByUndoTheyGoAgain() {
        MountainFile x = Check.inSeason(9998);
        x.range(0, 0);
        x.image();
        check.due("the last", x.seasons(1), 2);
        check.due("none", x.seasons(1), Check.STATE);
        x.undo();
        check.due("the last again", x.seasons(1), 2);
    }

    private static void promise13StepsOfAllTogetherThen() {
        MountainFile x = Lands.empty();
        check.due("of nobody", x.seasons(80), 0);
        x.range(0, 0);
        x.range(1, 12);
        check.due("of two", x.seasons(1), 5);
        check.due("those from before count too", x.seasons(1), 10);
        x.level(1);
        check.due("those of a levelled one don't", x.seasons(1), 6);
    }

    /** A stride of 6, and a shut cell or somebody 1 to 8 cells on. */
    private static void promise13AsLongAsTheNextCellIsOpenAndFree() {
        for (int start : new int[] {0, 15, 17, 18, 23}) {
            for (int d = 1; d <= 8; d++) {
                int there = (start + d) % 24;
                int due = Math.min(6, d - 1);
                MountainFile shut = hasty(start);
                shut.pass(there, 2, 0);
                checkGone("shut " + d + " on", shut, start, due);
                MountainFile taken = hasty(start);
                taken.range(0, there);
                checkGone("taken " + d + " on", taken, start, due);
            }
        }
    }

    private static MountainFile hasty(int start) {
        MountainFile x = new MountainFile();
        x.range(1, start);
        x.set(0, 2, 9);
        return x;
    }

    private static void checkGone(String what, MountainFile x, int start, int due) {
        x.seasons(1);
        check.due(what + " from " + start + ": steps", x.of(0, 3), due);
        check.due(what + " from " + start + ": cell", x.of(0, 1), (start + due) % 24);
        check.due(what + " from " + start + ": waits", x.of(0, 4), due < 6 ? 1 : 0);
    }

    private static void promise13BehindCell23Comes0() {
        MountainFile x = Lands.empty();
        x.range(2, 23);
        x.seasons(1);
        check.due("from 23", x.of(0, 1), 0);
        x.seasons(22);
        check.due("up to 22", x.of(0, 1), 22);
        x.seasons(1);
        check.due("in 23", x.of(0, 1), 23);
        x.seasons(1);
        check.due("round again", x.of(0, 1), 0);
        check.due("steps go on", x.of(0, 3), 25);
    }

    private static void promise13OutOfAShutCell() {
        MountainFile x = Lands.empty();
        x.range(2, 5);
        x.pass(5, 2, 0);
        check.due("it goes", x.seasons(1), 1);
        check.due("it doesn't wait", x.now(2), 0);
        check.due("it comes round up to it", x.seasons(80), 23);
        check.due("it stands behind it", x.of(0, 1), 4);
        check.due("and waits", x.of(0, 4), 80 - 22);
    }

    private static void promise13AStrideOfNothingIsNoWait() {
        MountainFile x = Lands.empty();
        x.range(3, 0);
        x.pass(1, 2, 0);
        x.seasons(2);
        check.due("it waited two summers", x.of(0, 4), 2);
        x.seasons(2);
        check.due("and no winters", x.of(0, 4), 2);
        x.seasons(1);
        check.due("and the third summer", x.of(0, 4), 3);
    }

    private static void promise13OpenByThatSeason() {
        MountainFile x = Lands.empty();
        x.range(2, 0);
        x.pass(1, 2, 1);
        x.pass(2, 2, 1);
        check.due("open in 0", x.seasons(1), 1);
        check.due("shut in 1", x.seasons(1), 1);
        check.due("open in 2", x.seasons(1), 2);
        // By a stride of 3 both are passed in one season, or none.
        MountainFile y = Lands.empty();
        y.range(1, 0);
        y.pass(1, 3, 1);
        y.pass(2, 3, 1);
        check.due("both in one season", y.seasons(1), 3);
    }

    /** Range 0 comes to cell 23 as the first season goes, and is ahead of 1 in the next one. */
    private static void promise13ValuesAsEachSeasonBegins() {
        MountainFile x = Lands.empty();
        x.range(0, 21);
        x.range(0, 23);
        x.order(3, -1);
        check.due("two seasons", x.seasons(2), 7);
        check.due("0 went up to 1", x.of(0, 1), 0);
        check.due("and waited", x.of(0, 4), 1);
        check.due("1 went on", x.of(1, 1), 3);
    }

    private static void promise13TheLesserNumberGoesFirst() {
        MountainFile x = Lands.empty();
        for (int r = 0; r < 8; r++) {
            x.range(0, r);
        }
        check.due("only the foremost goes", x.seasons(1), 2);
        check.due("seven wait", x.now(2), 7);
        MountainFile y = Lands.empty();
        for (int r = 0; r < 8; r++) {
            y.range(0, 7 - r);
        }
        check.due("all go", y.seasons(1), 16);
        check.due("none waits", y.now(2), 0);
    }

    private static void promise13ManyAreAsOneByOne() {
        for (Supplier<MountainFile> land : Lands.all()) {
            MountainFile many = land.get();
            MountainFile single = land.get();
            int steps = many.seasons(80);
            for (int i = 1; i < 80; i++) {
                single.seasons(1);
            }
            check.due("steps", single.seasons(1), steps);
            for (int what = 0; what <= 6; what++) {
                check.due("now(" + what + ")", single.now(what), many.now(what));
            }
        }
    }

    // ---- promise 14: now

    private static void promise14Whats() {
        for (Supplier<MountainFile> land : Lands.all()) {
            edges.bounds("now(v)", land, 0, 6, (x, v) -> x.now(v));
            for (int what = 0; what <= 6; what++) {
                int w = what;
                edges.asked("now(" + w + ")", land, land.get().now(w), x -> x.now(w));
            }
        }
    }

    private static void promise14EmptyLand() {
        int[] due = {0, 0, 0, 0, 0, 0, 1};
        for (int what = 0; what <= 6; what++) {
            check.due("now(" + what + ")", Lands.empty().now(what), due[what]);
        }
    }

    private static void promise14TheFirstAndTheLastOfASet() {
        MountainFile x = Lands.empty();
        x.range(0, 0);
        x.range(0, 23);
        check.due("cells", x.now(3), 1 | 1 << 23);
        x.pass(0, 2, 1);
        x.pass(23, 2, 1);
        x.pass(12, 2, 0);
        check.due("open passes", x.now(4), 1 | 1 << 23);
        for (int v = 0; v < 6; v++) {
            x.village(v == 0 || v == 5 ? 12 : 22);
        }
        check.due("lit villages", x.now(5), 1 | 1 << 5);
    }

    private static void promise14FullSets() {
        MountainFile x = Lands.empty();
        for (int c = 0; c < 24; c++) {
            x.pass(c, 2, 1);
        }
        for (int v = 0; v < 6; v++) {
            x.village(4 * v);
        }
        check.due("all passes are open", x.now(4), (1 << 24) - 1);
        check.due("all villages are lit", x.now(5), 63);
        x.seasons(1);
        check.due("no pass is open", x.now(4), 0);
        for (int r = 0; r < 8; r++) {
            x.range(0, 3 * r);
        }
        check.due("eight cells", x.now(3), 0x249249);
    }

    private static void promise14SummerTurns() {
        int[] summer = {1, 1, 0, 0, 1, 1, 0, 0, 1};
        MountainFile x = Lands.empty();
        MountainFile late = Check.inSeason(9991);
        for (int i = 0; i < summer.length; i++) {
            check.due("in season " + i, x.now(6), summer[i]);
            x.seasons(1);
            // 9991 leaves the rest 3.
            check.due("in season " + (9991 + i), late.now(6), summer[(3 + i) % 4]);
            check.due("season", late.now(0), 9991 + i);
            late.seasons(1);
        }
    }

    private static void promise14ALevelledOneCountsNot() {
        MountainFile x = Lands.empty();
        x.range(0, 0);
        x.range(0, 1);
        x.seasons(1);
        x.level(0);
        check.due("steps", x.now(1), 2);
        check.due("waits", x.now(2), 0);
        check.due("cells", x.now(3), 1 << 3);
    }

    // ---- promise 15: on

    private static void promise15RangesSeasonsAndWhats() {
        edges.bounds("on(v, 1, 0)", Lands::some, 0, 2, (x, v) -> x.on(v, 1, 0));
        edges.bounds("on(v, 80, 2)", Lands::full, 0, 7, (x, v) -> x.on(v, 80, 2));
        edges.bounds("on(0, v, 0)", Lands::some, 0, 80, (x, v) -> x.on(0, v, 0));
        edges.bounds("on(7, v, 2)", Lands::full, 0, 80, (x, v) -> x.on(7, v, 2));
        edges.bounds("on(0, 1, v)", Lands::some, 0, 2, (x, v) -> x.on(0, 1, v));
        edges.refused("there is none", Lands::empty, Check.BEYOND, x -> x.on(0, 0, 0));
        edges.refused("on(3, 81, 3)", Lands::some, Check.BEYOND, x -> x.on(3, 81, 3));
    }

    /** What on() tells of 0, 1, 79 and 80 seasons comes when they go. */
    private static void promise15AsItComes() {
        for (int n : new int[] {0, 1, 79, 80}) {
            MountainFile then = Lands.full();
            if (n > 0) {
                then.seasons(n);
            }
            for (int r = 0; r < 8; r += 7) {
                int range = r;
                edges.asked("cell", Lands::full, then.of(r, 1), x -> x.on(range, n, 0));
                edges.asked("steps", Lands::full, then.of(r, 3), x -> x.on(range, n, 1));
                edges.asked("waits", Lands::full, then.of(r, 4), x -> x.on(range, n, 2));
            }
        }
    }

    private static void promise15BeyondTheLastSeason() {
        edges.asked("eighty on", SeasonsEdgesTest::aloneAtLast, 160, x -> x.on(0, 80, 1));
        edges.asked("one on", SeasonsEdgesTest::aloneAtLast, 2, x -> x.on(0, 1, 0));
        edges.asked("none on", SeasonsEdgesTest::aloneAtLast, 0, x -> x.on(0, 0, 1));
    }

    private static MountainFile aloneAtLast() {
        MountainFile x = Check.inSeason(9999);
        x.range(0, 0);
        return x;
    }

    // ---- promise 16: when

    private static void promise16RangesAndCells() {
        edges.bounds("when(v, 0)", Lands::some, 0, 2, (x, v) -> x.when(v, 0));
        edges.bounds("when(v, 0)", Lands::full, 0, 7, (x, v) -> x.when(v, 0));
        edges.bounds("when(0, v)", Lands::some, 0, 23, (x, v) -> x.when(0, v));
        edges.refused("there is none", Lands::empty, Check.BEYOND, x -> x.when(0, 0));
        edges.refused("when(3, 24)", Lands::some, Check.BEYOND, x -> x.when(3, 24));
    }

    /** A peak goes into cell m in season 9 m, so it is there in 9 m + 1 less the season it is now. */
    private static MountainFile slow(int season) {
        MountainFile x = Check.inSeason(season);
        for (int c = 1; c <= 10; c++) {
            x.pass(c, 9, 1);
        }
        x.range(2, 0);
        return x;
    }

    private static void promise16FromNoneToEighty() {
        edges.asked("it is there", () -> slow(2), 0, x -> x.when(0, 0));
        edges.asked("in one", () -> slow(9), 1, x -> x.when(0, 1));
        edges.asked("in seventy-nine", () -> slow(3), 79, x -> x.when(0, 9));
        edges.asked("in eighty", () -> slow(2), 80, x -> x.when(0, 9));
        edges.refused("in eighty-one", () -> slow(1), Check.NONE, x -> x.when(0, 9));
    }

    private static void promise16First() {
        MountainFile x = Lands.empty();
        x.range(2, 23);
        check.due("now, and in 24 again", x.when(0, 23), 0);
        check.due("round", x.when(0, 0), 1);
        check.due("in 23, and in 47 again", x.when(0, 22), 23);
    }

    private static void promise16NeverThere() {
        edges.refused("it strides over it", SeasonsEdgesTest::evenOnly, Check.NONE, x -> x.when(0, 1));
        edges.refused("it strides over the last", SeasonsEdgesTest::evenOnly, Check.NONE, x -> x.when(0, 23));
        edges.asked("an even one", SeasonsEdgesTest::evenOnly, 11, x -> x.when(0, 22));
    }

    private static MountainFile evenOnly() {
        MountainFile x = new MountainFile();
        x.range(0, 0);
        return x;
    }

    private static void promise16BeyondIsAskedAheadOfNone() {
        edges.refused("no such one", SeasonsEdgesTest::evenOnly, Check.BEYOND, x -> x.when(1, 1));
        edges.refused("no such cell", SeasonsEdgesTest::evenOnly, Check.BEYOND, x -> x.when(0, 25));
    }

    // ---- promise 17: lit

    private static void promise17Villages() {
        edges.bounds("lit(v)", Lands::some, 0, 1, (x, v) -> x.lit(v));
        edges.bounds("lit(v)", Lands::full, 0, 5, (x, v) -> x.lit(v));
        edges.refused("there is none", Lands::empty, Check.BEYOND, x -> x.lit(0));
    }

    /**
     * Eight peaks in a row, the first in village 0: by two passes that open each
     * ninth season they leave it one by one, the last in season 81.
     */
    private static MountainFile queue(int season) {
        MountainFile x = Check.inSeason(season);
        x.village(8);
        x.pass(9, 9, 1);
        x.pass(10, 9, 1);
        x.pass(23, 2, 0);
        for (int r = 0; r < 8; r++) {
            x.range(2, 8 - r);
        }
        return x;
    }

    private static void promise17FromNoneToEighty() {
        edges.asked("lit now", SeasonsEdgesTest::litNow, 0, x -> x.lit(0));
        edges.asked("in one", SeasonsEdgesTest::litNow, 1, x -> x.lit(1));
        edges.asked("in two, round", SeasonsEdgesTest::litNow, 2, x -> x.lit(2));
        edges.asked("in seventy-nine", () -> queue(3), 79, x -> x.lit(0));
        edges.asked("in eighty", () -> queue(2), 80, x -> x.lit(0));
        edges.refused("in eighty-one", () -> queue(1), Check.NONE, x -> x.lit(0));
    }

    /** A peak in 23: village 0 is far from it, 1 is behind it, 2 is where it is. */
    private static MountainFile litNow() {
        MountainFile x = new MountainFile();
        x.range(2, 23);
        x.village(12);
        x.village(22);
        x.village(23);
        return x;
    }

    private static void promise17NeverLit() {
        edges.refused("one stands in it", () -> standing(12), Check.NONE, x -> x.lit(0));
        edges.refused("one stands in the next", () -> standing(11), Check.NONE, x -> x.lit(0));
        edges.asked("one stands behind it", () -> standing(13), 0, x -> x.lit(0));
        edges.asked("one stands two on", () -> standing(10), 0, x -> x.lit(0));
    }

    private static void promise17TheSixthVillage() {
        edges.asked("it alone is lit", () -> sixth(12, 5), 0, x -> x.lit(5));
        edges.refused("the fifth is never", () -> sixth(12, 5), Check.NONE, x -> x.lit(4));
        edges.refused("it alone is never lit", () -> sixth(5, 12), Check.NONE, x -> x.lit(5));
    }

    /** One stands in 12 for good; five villages in one cell, the sixth in another. */
    private static MountainFile sixth(int cellOfFive, int cellOfSixth) {
        MountainFile x = standing(cellOfFive);
        for (int v = 1; v < 5; v++) {
            x.village(cellOfFive);
        }
        x.village(cellOfSixth);
        return x;
    }

    /** One stands in 12 for good. */
    private static MountainFile standing(int village) {
        MountainFile x = new MountainFile();
        x.range(0, 12);
        x.pass(13, 2, 0);
        x.village(village);
        return x;
    }

    // ---- promise 18: sun

    private static void promise18VillagesAndSeasons() {
        edges.bounds("sun(v, 80)", Lands::some, 0, 1, (x, v) -> x.sun(v, 80));
        edges.bounds("sun(v, 1)", Lands::full, 0, 5, (x, v) -> x.sun(v, 1));
        edges.bounds("sun(0, v)", Lands::some, 0, 80, (x, v) -> x.sun(0, v));
        edges.refused("there is none", Lands::empty, Check.BEYOND, x -> x.sun(0, 0));
        edges.refused("sun(2, 81)", Lands::some, Check.BEYOND, x -> x.sun(2, 81));
    }

    private static void promise18NoneAndAll() {
        edges.asked("of no seasons", SeasonsEdgesTest::litNow, 0, x -> x.sun(0, 0));
        edges.asked("all eighty", () -> standing(13), 80, x -> x.sun(0, 80));
        edges.asked("none of eighty", () -> standing(12), 0, x -> x.sun(0, 80));
    }

    private static void promise18TheSixthVillage() {
        edges.asked("all eighty", () -> sixth(12, 5), 80, x -> x.sun(5, 80));
        edges.asked("none of eighty", () -> sixth(5, 12), 0, x -> x.sun(5, 80));
    }

    private static void promise18BehindEach() {
        edges.asked("lit now counts not", () -> ahead(10), 0, x -> x.sun(0, 1));
        edges.asked("dark now counts not", () -> ahead(12), 1, x -> x.sun(0, 1));
        edges.asked("lit in the eightieth", () -> queue(2), 1, x -> x.sun(0, 80));
        edges.asked("not in the seventy-ninth", () -> queue(2), 0, x -> x.sun(0, 79));
    }

    /** One of stride 2 in 10, or in 12, and village 0 in 12. */
    private static MountainFile ahead(int cell) {
        MountainFile x = new MountainFile();
        x.range(0, cell);
        x.village(12);
        return x;
    }
}
