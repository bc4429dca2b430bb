import java.util.function.Supplier;

/** The edges that promises 39 to 43 name: images, counts and the status. */
public final class ImagesEdgesTest {
    private static final Check check = new Check();
    private static final Edges edges = new Edges(check);

    public static void main(String[] args) throws ReflectiveOperationException {
        check.runPromises(ImagesEdgesTest.class);
        check.end();
    }

    // ---- promise 39: image

    private static void promise39AnEmptyAndAFullLand() {
        for (Supplier<MountainFile> land : Lands.all()) {
            MountainFile x = land.get();
            MountainFile untouched = land.get();
            check.due("image", x.image(), 1);
            check.due("no finding", x.status(-1), untouched.status(-1));
            for (int what = 0; what <= 4; what++) {
                check.due("count(" + what + ")", x.count(what), untouched.count(what));
                check.due("now(" + what + ")", x.now(what), untouched.now(what));
            }
        }
    }

    /** Kept, changed in all its parts and undone, it is as one that was never changed. */
    private static void promise39AllThatSection1Tells() {
        for (Supplier<MountainFile> land : Lands.all()) {
            MountainFile x = land.get();
            MountainFile untouched = land.get();
            x.image();
            untouched.image();
            changeAll(x);
            x.undo();
            edges.same("it is all there again", x, untouched);
        }
    }

    /** Whatever section 1 tells but for the tape, and nothing else. */
    private static void changeAll(MountainFile x) {
        for (int c = 0; c < 24; c++) {
            x.pass(c, x.cell(c, 0) == 0 ? 5 : 0, 3);
        }
        for (int r = x.count(0) - 1; r >= 0; r--) {
            x.set(r, 2, 9 - x.of(r, 2));
            x.turn(r, 5 - x.of(r, 0));
        }
        x.seasons(7);
        x.level(0);
        x.range(1, 11);
        x.village(11);
        for (int w = 0; w < 4; w++) {
            x.order(w, 6 - w);
        }
    }

    private static void promise39TheTapeTheSheetsAndTheStatusAreNoPart() {
        MountainFile x = Lands.some();
        x.image();
        int bytes = x.count(2);
        int findings = x.status(-1);
        x.feed('!', 1);
        x.write(0, 0, 99);
        x.sheet(1, 0, 0);
        x.now(7);
        x.undo();
        check.due("bytes", x.count(2), bytes + 1);
        check.due("number", x.write(0, 0, 0), 99);
        check.due("sheet", x.write(1, 0, 0), Check.MISSING);
        check.due("findings", x.status(-1), findings + 2);
    }

    private static void promise39WhatIsKeptDoesNotGoOn() {
        MountainFile x = Lands.empty();
        x.range(0, 0);
        x.image();
        x.seasons(1);
        x.set(0, 2, 9);
        x.undo();
        x.seasons(1);
        x.undo();
        check.due("season", x.now(0), 0);
        check.due("steps", x.of(0, 3), 0);
        check.due("haste", x.of(0, 2), 0);
    }

    // ---- promise 40: undo

    private static void promise40NothingIsKept() {
        edges.refused("in an empty land", Lands::empty, Check.NONE, x -> x.undo());
        edges.refused("in one that was torn", ImagesEdgesTest::torn, Check.NONE, x -> x.undo());
    }

    private static MountainFile torn() {
        MountainFile x = Lands.some();
        x.tear();
        return x;
    }

    private static void promise40HowManyRanges() {
        for (int ranges = 0; ranges <= 8; ranges++) {
            MountainFile x = Lands.empty();
            for (int r = 0; r < ranges; r++) {
                x.range(0, 3 * r);
            }
            x.image();
            x.range(0, 1);
            x.level(0);
            x.level(0);
            check.due("ranges", x.undo(), ranges);
            check.due("there are", x.count(0), ranges);
        }
    }

    private static void promise40TheLatestWhichStays() {
        MountainFile x = Lands.empty();
        x.image();
        x.range(0, 0);
        x.image();
        x.range(0, 5);
        check.due("the latest", x.undo(), 1);
        x.level(0);
        check.due("it stays", x.undo(), 1);
        check.due("once more", x.undo(), 1);
        check.due("it is kept", x.tear(), 1);
    }

    private static void promise40FromTheLastSeasonToTheFirst() {
        MountainFile x = Lands.empty();
        x.range(0, 0);
        x.image();
        Check.goTo(x, 9999);
        check.due("the last", x.seasons(1), Check.STATE);
        x.undo();
        check.due("the first", x.now(0), 0);
        check.due("they go again", x.seasons(1), 2);
    }

    private static void promise40FullNoMore() {
        MountainFile x = Lands.empty();
        x.image();
        for (int r = 0; r < 8; r++) {
            x.range(0, r);
        }
        check.due("a 9th", x.range(0, 8), Check.FULL);
        check.due("none", x.undo(), 0);
        check.due("a new one", x.range(0, 0), 0);
        check.due("the next cell is free", x.range(0, 1), 1);
    }

    // ---- promise 41: tear

    private static void promise41SomethingAndNothing() {
        edges.asked("in an empty land", Lands::empty, 0, x -> x.tear());
        edges.asked("once more", ImagesEdgesTest::torn, 0, x -> x.tear());
        MountainFile x = Lands.full();
        check.due("in a full land", x.tear(), 1);
        check.due("once more", x.tear(), 0);
        check.due("ranges stay", x.count(0), 8);
        check.due("a new one is kept", x.image(), 1);
        check.due("it is something", x.tear(), 1);
    }

    private static void promise41AnImageOfAnEmptyLandIsSomething() {
        MountainFile x = Lands.empty();
        x.image();
        check.due("something", x.tear(), 1);
    }

    private static void promise41OneForAllThatWereKept() {
        MountainFile x = Lands.empty();
        x.image();
        x.range(0, 0);
        x.image();
        check.due("something", x.tear(), 1);
        check.due("none older is left", x.tear(), 0);
        check.due("nor to be undone", x.undo(), Check.NONE);
    }

    // ---- promise 42: count

    private static void promise42Whats() {
        for (Supplier<MountainFile> land : Lands.all()) {
            edges.bounds("count(v)", land, 0, 4, (x, v) -> x.count(v));
        }
    }

    private static void promise42EmptyAndFull() {
        int[] full = {8, 6, 120, 24, 9 + 8 + 7 + 6 + 5 + 4 + 3 + 2};
        for (int what = 0; what <= 4; what++) {
            int w = what;
            edges.asked("of an empty land", Lands::empty, 0, x -> x.count(w));
            edges.asked("of a full land", Lands::full, full[w], x -> x.count(w));
        }
        MountainFile x = Lands.full();
        for (int r = 0; r < 8; r++) {
            x.set(r, 2, 9);
        }
        check.due("most haste", x.count(4), 72);
    }

    private static void promise42PassesShutAndOpen() {
        MountainFile x = Lands.empty();
        x.pass(0, 2, 0);
        x.pass(23, 9, 9);
        check.due("both", x.count(3), 2);
        x.pass(0, 0, 0);
        check.due("one", x.count(3), 1);
    }

    // ---- promise 43: status

    private static void promise43Whiches() {
        for (Supplier<MountainFile> land : Lands.all()) {
            edges.bounds("status(v)", land, -1, 6, (x, v) -> x.status(v));
        }
        for (int which = -1; which <= 6; which++) {
            int w = which;
            edges.asked("of a new one", Lands::empty, 0, x -> x.status(w));
        }
    }

    private static void promise43ItsOwnFindingIsCountedFromThenOn() {
        MountainFile x = Lands.empty();
        check.due("which 7", x.status(7), Check.BEYOND);
        check.due("BEYOND", x.status(0), 1);
        check.due("which -2", x.status(-2), Check.BEYOND);
        check.due("all", x.status(-1), 2);
        check.due("what it answers counts not", x.status(-1), 2);
        check.due("nor of any other", x.status(6), 0);
    }

    /** From the first finding of each to the last. */
    private static void promise43EachFindingByItself() {
        Edges.Act[] acts = {
            x -> x.pass(24, 2, 1), x -> x.village(0), x -> x.as(0, 5), x -> x.swap(0),
            x -> x.range(0, 0), x -> x.write(3, 0, 0), x -> x.sheet(0, 0, -1)};
        for (int which = 0; which <= 6; which++) {
            MountainFile x = sixVillages();
            for (int times = 1; times <= 3; times++) {
                check.due("finding " + which, acts[which].on(x), Check.BEYOND - which);
                for (int other = 0; other <= 6; other++) {
                    check.due("status(" + other + ")", x.status(other), other == which ? times : 0);
                }
                check.due("all", x.status(-1), times);
            }
        }
    }

    private static MountainFile sixVillages() {
        MountainFile x = new MountainFile();
        for (int v = 0; v < 6; v++) {
            x.village(v);
        }
        x.range(0, 0);
        return x;
    }

    private static void promise43UndoTakesNoneBack() {
        MountainFile x = Lands.empty();
        x.image();
        x.cell(24, 0);
        x.as(0, 0);
        x.undo();
        check.due("both stay", x.status(0), 2);
        x.tear();
        x.undo();
        check.due("that of undo", x.status(3), 1);
        x.image();
        x.undo();
        check.due("all stay", x.status(-1), 3);
    }

    private static void promise43AnswersBelowZeroThatAreNone() {
        MountainFile x = Lands.empty();
        x.range(0, 0);
        check.due("a fault", x.land(), -1);
        check.due("nobody in a cell", x.cell(5, 3), -1);
        check.due("nobody ahead", x.ahead(0), -1);
        check.due("nobody ahead by the order", x.of(0, 7), -1);
        x.order(0, -9);
        check.due("a weight", x.order(0, 0), -9);
        check.due("the best weight", x.best(0, 0), -9);
        check.due("none is a finding", x.status(-1), 0);
    }
}
