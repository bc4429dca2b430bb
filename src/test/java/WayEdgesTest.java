/** The edges that promises 1 to 6 name: a new object, and the way. */
public final class WayEdgesTest {
    private static final Check check = new Check();
    private static final Edges edges = new Edges(check);

    public static void main(String[] args) throws ReflectiveOperationException {
        check.runPromises(WayEdgesTest.class);
        check.end();
    }

    // ---- promise 1: a new object

    private static void promise1NoRangesPassesVillages() {
        MountainFile x = Lands.empty();
        check.due("ranges", x.count(0), 0);
        check.due("villages", x.count(1), 0);
        check.due("passes", x.count(3), 0);
        check.due("range 0", x.of(0, 0), Check.BEYOND);
        check.due("village 0", x.villageOf(0, 0), Check.BEYOND);
        for (int c = 0; c < 24; c++) {
            check.due("period of " + c, x.cell(c, 0), 0);
            check.due("nobody in " + c, x.cell(c, 3), -1);
        }
    }

    private static void promise1TheTapeIsEmpty() {
        check.due("bytes", Lands.empty().count(2), 0);
        check.due("wiped", Lands.empty().wipe(), 0);
        check.due("ends at once", Lands.empty().land(), -1);
    }

    private static void promise1NoImageIsKept() {
        check.due("undo", Lands.empty().undo(), Check.NONE);
        check.due("tear", Lands.empty().tear(), 0);
    }

    private static void promise1SeasonWeightsAndSheetsAtFirst() {
        MountainFile x = Lands.empty();
        check.due("season", x.now(0), 0);
        for (int w = 0; w < 4; w++) {
            check.due("weight " + w, x.order(w, 9), 0);
        }
        for (int s = 0; s < 4; s++) {
            check.due("sheet " + s, x.write(s, 0, 1), Check.MISSING);
        }
    }

    private static void promise1NothingIsSharedWithAnOlderObject() {
        MountainFile older = Lands.full();
        MountainFile x = Lands.empty();
        older.seasons(80);
        for (int what = 0; what <= 4; what++) {
            check.due("count(" + what + ")", x.count(what), 0);
        }
        check.due("season", x.now(0), 0);
        check.due("findings", x.status(-1), 0);
        check.due("image", x.tear(), 0);
    }

    private static void promise1TheCall512IsStillAnswered() {
        MountainFile x = Lands.empty();
        for (int call = 1; call < 512; call++) {
            x.cell(24, 0);
        }
        check.due("511 findings and one question", x.status(-1), 511);
    }

    // ---- promise 2: pass

    private static void promise2Cells0To23() {
        edges.bounds("pass(v, 2, 1)", Lands::some, 0, 23, (x, v) -> x.pass(v, 2, 1));
        edges.bounds("pass(v, 0, 0)", Lands::full, 0, 23, (x, v) -> x.pass(v, 0, 0));
        MountainFile x = Lands.empty();
        check.due("the first", x.pass(0, 2, 1), 0);
        check.due("the last", x.pass(23, 9, 1), 0);
        check.due("both", x.now(4), 1 | 1 << 23);
    }

    private static void promise2Periods2To9() {
        edges.bounds("pass(12, v, 2)", Lands::some, 2, 9, (x, v) -> v == 1 ? x.pass(12, 1, 1) : x.pass(12, v, 2));
        edges.refused("pass(12, 1, 0)", Lands::some, Check.BEYOND, x -> x.pass(12, 1, 0));
        edges.refused("pass(12, -1, -1)", Lands::some, Check.BEYOND, x -> x.pass(12, -1, -1));
        MountainFile x = Lands.empty();
        for (int period = 2; period <= 9; period++) {
            x.pass(period, period, 1);
            check.due("period", x.cell(period, 0), period);
        }
    }

    private static void promise2OpenFrom0ToPeriod() {
        for (int period = 2; period <= 9; period++) {
            int p = period;
            edges.bounds("pass(12, " + p + ", v)", Lands::some, 0, p, (x, v) -> x.pass(12, p, v));
            MountainFile x = Lands.empty();
            for (int open = 0; open <= period; open++) {
                check.due("pass", x.pass(5, period, open), open == 0 ? 0 : 1);
                check.due("open", x.cell(5, 1), open);
            }
        }
    }

    private static void promise2PeriodZeroIsNoneAndOpenCountsNothing() {
        for (int open : new int[] {Integer.MIN_VALUE, -1, 0, 1, 9, 10, Integer.MAX_VALUE}) {
            MountainFile x = Lands.empty();
            x.pass(7, 3, 2);
            check.due("it was one", x.pass(7, 0, open), 1);
            check.due("period", x.cell(7, 0), 0);
            check.due("open", x.cell(7, 1), 0);
            check.due("open now", x.cell(7, 2), 1);
            check.due("it was none", x.pass(7, 0, open), 0);
            check.due("no finding", x.status(-1), 0);
        }
    }

    private static void promise2AnswersWhetherItWasOne() {
        MountainFile x = Lands.empty();
        for (int c = 0; c < 24; c++) {
            check.due("new in " + c, x.pass(c, 2, 0), 0);
        }
        check.due("all are passes", x.count(3), 24);
        check.due("one that is never open is one too", x.pass(3, 9, 9), 1);
        check.due("another", x.pass(3, 9, 9), 1);
        check.due("still all", x.count(3), 24);
    }

    /** For each period and open: the last season that is open, the first that is shut, and round. */
    private static void promise2OpenInSeasonsWhoseRestIsBelowOpen() {
        for (int open = 0; open <= 9; open++) {
            MountainFile x = Lands.empty();
            for (int period = 2; period <= 9; period++) {
                x.pass(period, period, Math.min(open, period));
            }
            for (int season = 0; season <= 19; season++) {
                for (int period = 2; period <= 9; period++) {
                    check.due("period " + period + ", open " + open + ", season " + season,
                        x.cell(period, 2), season % period < open ? 1 : 0);
                }
                x.seasons(1);
            }
        }
    }

    private static void promise2InTheLastSeason() {
        MountainFile x = Check.inSeason(9999);
        for (int period = 2; period <= 9; period++) {
            int rest = 9999 % period;
            x.pass(1, period, rest);
            check.due("shut by " + period, x.cell(1, 2), 0);
            x.pass(1, period, rest + 1);
            check.due("open by " + period, x.cell(1, 2), 1);
        }
    }

    private static void promise2ACellWithARangeOrAVillage() {
        MountainFile x = Lands.empty();
        x.range(0, 4);
        x.village(4);
        check.due("pass", x.pass(4, 2, 0), 0);
        check.due("it is still there", x.cell(4, 3), 0);
        check.due("it goes out of it", x.seasons(1), 2);
    }

    // ---- promise 3: cell

    private static void promise3CellsAndWhats() {
        edges.bounds("cell(v, 0)", Lands::full, 0, 23, (x, v) -> x.cell(v, 0));
        edges.bounds("cell(v, 3)", Lands::empty, 0, 23, (x, v) -> x.cell(v, 3));
        edges.bounds("cell(0, v)", Lands::full, 0, 3, (x, v) -> x.cell(0, v));
        edges.bounds("cell(23, v)", Lands::empty, 0, 3, (x, v) -> x.cell(23, v));
        edges.refused("cell(24, 4)", Lands::some, Check.BEYOND, x -> x.cell(24, 4));
    }

    private static void promise3NoPass() {
        for (int what = 0; what <= 1; what++) {
            int w = what;
            edges.asked("cell(5, " + w + ")", Lands::some, 0, x -> x.cell(5, w));
        }
        edges.asked("what is no pass is open", Lands::some, 1, x -> x.cell(5, 2));
    }

    private static void promise3APass() {
        edges.asked("period", Lands::some, 9, x -> x.cell(0, 0));
        edges.asked("open", Lands::some, 5, x -> x.cell(0, 1));
        // It is season 5: shut by 9 and 5, and by 3 and 1 too.
        edges.asked("shut now", Lands::some, 0, x -> x.cell(0, 2));
        edges.asked("the other one is shut", Lands::some, 0, x -> x.cell(12, 2));
    }

    private static void promise3WhoIsInIt() {
        MountainFile x = Lands.empty();
        check.due("nobody", x.cell(0, 3), -1);
        check.due("nobody is no finding", x.status(-1), 0);
        for (int r = 0; r < 8; r++) {
            x.range(0, 23 - r);
        }
        check.due("0 in the last", x.cell(23, 3), 0);
        check.due("7", x.cell(16, 3), 7);
        check.due("nobody behind 7", x.cell(15, 3), -1);
        x.level(7);
        check.due("nobody where 7 was", x.cell(16, 3), -1);
    }

    // ---- promise 4: village

    private static void promise4Cells0To23() {
        edges.bounds("village(v)", Lands::some, 0, 23, (x, v) -> x.village(v));
        MountainFile x = Lands.empty();
        check.due("in the first", x.village(0), 0);
        check.due("in the last", x.village(23), 1);
        check.due("its cell", x.villageOf(1, 0), 23);
    }

    private static void promise4AtMostSix() {
        MountainFile x = Lands.empty();
        for (int v = 0; v < 6; v++) {
            check.due("a new one", x.village(9), v);
        }
        check.due("a 7th", x.village(9), Check.FULL);
        check.due("six", x.count(1), 6);
        edges.refused("a 7th", Lands::full, Check.FULL, y -> y.village(0));
        edges.refused("a 7th in the last cell", Lands::full, Check.FULL, y -> y.village(23));
    }

    private static void promise4BeyondIsAskedAheadOfFull() {
        edges.bounds("a 7th in v", Lands::full, 0, 23, (x, v) -> x.village(v));
        edges.refused("a 7th in 24", Lands::full, Check.BEYOND, x -> x.village(24));
        edges.refused("a 7th in -1", Lands::full, Check.BEYOND, x -> x.village(-1));
    }

    private static void promise4NotFullAnyMoreByUndo() {
        MountainFile x = Lands.empty();
        for (int v = 0; v < 5; v++) {
            x.village(v);
        }
        x.image();
        x.village(5);
        check.due("full", x.village(6), Check.FULL);
        x.undo();
        check.due("the 6th once more", x.village(6), 5);
    }

    // ---- promise 5: villageOf

    private static void promise5VillagesAndWhats() {
        edges.bounds("villageOf(v, 0)", Lands::some, 0, 1, (x, v) -> x.villageOf(v, 0));
        edges.bounds("villageOf(v, 1)", Lands::full, 0, 5, (x, v) -> x.villageOf(v, 1));
        edges.bounds("villageOf(0, v)", Lands::some, 0, 1, (x, v) -> x.villageOf(0, v));
        edges.bounds("villageOf(5, v)", Lands::full, 0, 1, (x, v) -> x.villageOf(5, v));
        edges.refused("there is none", Lands::empty, Check.BEYOND, x -> x.villageOf(0, 0));
        edges.refused("there is none, nor such a what", Lands::empty, Check.BEYOND, x -> x.villageOf(0, 2));
    }

    private static void promise5CellAndLight() {
        edges.asked("cell", Lands::some, 23, x -> x.villageOf(0, 0));
        edges.asked("cell of the last", Lands::full, 23, x -> x.villageOf(5, 0));
        MountainFile x = Lands.empty();
        x.village(22);
        x.village(23);
        x.village(0);
        x.range(0, 12);
        int[][] dark = {{21, 0, 0, 0}, {22, 1, 0, 0}, {23, 1, 1, 0}, {0, 0, 1, 1}, {1, 0, 0, 1}, {2, 0, 0, 0}};
        for (int[] row : dark) {
            x.set(0, 1, row[0]);
            for (int v = 0; v < 3; v++) {
                check.due("village " + v + " with one in " + row[0], x.villageOf(v, 1), 1 - row[1 + v]);
            }
        }
    }

    private static void promise5AShutPassIsNoShade() {
        MountainFile x = Lands.empty();
        x.village(4);
        x.pass(4, 2, 0);
        x.pass(5, 2, 0);
        check.due("lit", x.villageOf(0, 1), 1);
    }

    // ---- promise 6: order

    private static void promise6WhatsAndWeights() {
        edges.bounds("order(v, 0)", Lands::some, 0, 3, (x, v) -> x.order(v, 0));
        for (int what = 0; what <= 3; what++) {
            int w = what;
            edges.bounds("order(" + w + ", v)", Lands::some, -9, 9, (x, v) -> x.order(w, v));
        }
        edges.refused("order(4, 10)", Lands::full, Check.BEYOND, x -> x.order(4, 10));
        edges.refused("order(-1, -10)", Lands::empty, Check.BEYOND, x -> x.order(-1, -10));
    }

    private static void promise6AnswersWhatItWas() {
        MountainFile x = Lands.empty();
        for (int what = 0; what <= 3; what++) {
            check.due("at first", x.order(what, -9), 0);
            check.due("the least", x.order(what, 9), -9);
            check.due("the most", x.order(what, -1), 9);
            check.due("a weight of -1 is no finding", x.order(what, 0), -1);
        }
        check.due("findings", x.status(-1), 0);
    }

    private static void promise6EachWeightIsOfItsOwn() {
        MountainFile x = Lands.empty();
        x.range(0, 5);
        x.range(0, 11);
        x.set(1, 2, 7);
        x.seasons(1);
        // Of range 1: number 1, haste 7, steps 4, cell 15.
        int[] of = {1, 7, 4, 15};
        for (int what = 0; what <= 3; what++) {
            x.order(what, -9);
            check.due("the least weight of " + what, x.of(1, 6), -9 * of[what]);
            x.order(what, 9);
            check.due("the most weight of " + what, x.of(1, 6), 9 * of[what]);
            x.order(what, 0);
        }
    }
}
