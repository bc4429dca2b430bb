/** The edges that promises 7 to 12 name: ranges, strides, kinds, the order. */
public final class RangesEdgesTest {
    private static final int KINDS = 6;
    private static final Check check = new Check();
    private static final Edges edges = new Edges(check);

    public static void main(String[] args) throws ReflectiveOperationException {
        check.runPromises(RangesEdgesTest.class);
        check.end();
    }

    /** Ranges 0 to 7, all of kind 0, in cells 0, 3, 6, .. 21. */
    private static MountainFile eight() {
        MountainFile x = new MountainFile();
        for (int r = 0; r < 8; r++) {
            x.range(0, 3 * r);
        }
        return x;
    }

    private static MountainFile one(int kind) {
        MountainFile x = new MountainFile();
        x.range(kind, 0);
        return x;
    }

    // ---- promise 7: range

    private static void promise7KindsAndCells() {
        edges.bounds("range(v, 14)", Lands::some, 0, 5, (x, v) -> x.range(v, 14));
        edges.bounds("range(0, v)", Lands::empty, 0, 23, (x, v) -> x.range(0, v));
        edges.bounds("range(5, v)", Lands::empty, 0, 23, (x, v) -> x.range(5, v));
        edges.refused("range(6, 24)", Lands::some, Check.BEYOND, x -> x.range(6, 24));
        MountainFile x = Lands.empty();
        check.due("the first kind in the last cell", x.range(0, 23), 0);
        check.due("the last kind in the first cell", x.range(5, 0), 1);
        check.due("kind", x.of(1, 0), 5);
        check.due("cell", x.of(0, 1), 23);
    }

    private static void promise7NoTwoInOneCell() {
        MountainFile x = Lands.empty();
        x.range(0, 0);
        x.range(0, 23);
        check.due("in the first", x.range(1, 0), Check.STATE);
        check.due("in the last", x.range(1, 23), Check.STATE);
        check.due("next to it", x.range(1, 1), 2);
        check.due("behind it", x.range(1, 22), 3);
        edges.refused("somebody is there", RangesEdgesTest::eight, Check.STATE, y -> y.range(3, 21));
    }

    private static void promise7ACellThatIsFreeAgain() {
        MountainFile x = Lands.empty();
        x.range(0, 5);
        x.seasons(1);
        check.due("it went out of it", x.range(0, 5), 1);
        check.due("it went into it", x.range(0, 7), Check.STATE);
        x.set(0, 1, 12);
        check.due("it was set elsewhere", x.range(0, 7), 2);
        x.level(0);
        check.due("it was levelled", x.range(0, 12), 2);
    }

    private static void promise7AtMostEight() {
        MountainFile x = Lands.empty();
        for (int r = 0; r < 8; r++) {
            check.due("a new one", x.range(0, 2 * r), r);
        }
        check.due("a 9th", x.range(0, 1), Check.FULL);
        check.due("eight", x.count(0), 8);
        edges.refused("a 9th", RangesEdgesTest::eight, Check.FULL, y -> y.range(5, 23));
        x.level(3);
        check.due("room for one", x.range(0, 1), 7);
        check.due("and for no other", x.range(0, 3), Check.FULL);
    }

    private static void promise7FindingsInTheirOrder() {
        edges.refused("no kind, and taken", Lands::some, Check.BEYOND, x -> x.range(6, x.of(0, 1)));
        edges.refused("no kind, and a 9th", RangesEdgesTest::eight, Check.BEYOND, x -> x.range(-1, 1));
        edges.refused("no cell, and a 9th", RangesEdgesTest::eight, Check.BEYOND, x -> x.range(0, 24));
        edges.refused("no kind, taken, and a 9th", RangesEdgesTest::eight, Check.BEYOND, x -> x.range(6, 0));
        edges.refused("taken, and a 9th", RangesEdgesTest::eight, Check.STATE, x -> x.range(0, 0));
        edges.refused("taken, and a 9th, the last", RangesEdgesTest::eight, Check.STATE, x -> x.range(0, 21));
    }

    private static void promise7HasteStepsAndWaitsAreZeroAtFirst() {
        MountainFile x = eight();
        for (int r = 0; r < 8; r++) {
            x.set(r, 2, 9);
        }
        x.seasons(5);
        x.level(7);
        int cell = x.cell(23, 3) < 0 ? 23 : 22;
        int r = x.range(0, cell);
        for (int what = 2; what <= 4; what++) {
            check.due("of(7, " + what + ")", x.of(r, what), 0);
        }
    }

    private static void promise7InAShutPassAndInAVillage() {
        MountainFile x = Lands.empty();
        x.pass(4, 2, 0);
        x.village(4);
        check.due("it may", x.range(0, 4), 0);
    }

    // ---- promise 8: of

    private static void promise8RangesAndWhats() {
        for (int what = 0; what <= 7; what++) {
            int w = what;
            edges.bounds("of(v, " + w + ")", RangesEdgesTest::eight, 0, 7, (x, v) -> x.of(v, w));
        }
        edges.bounds("of(v, 0)", Lands::some, 0, 2, (x, v) -> x.of(v, 0));
        edges.bounds("of(0, v)", Lands::some, 0, 7, (x, v) -> x.of(0, v));
        edges.bounds("of(7, v)", Lands::full, 0, 7, (x, v) -> x.of(7, v));
        edges.refused("there is none", Lands::empty, Check.BEYOND, x -> x.of(0, 0));
        edges.refused("of(3, 8)", Lands::some, Check.BEYOND, x -> x.of(3, 8));
    }

    private static void promise8ThirdsAndHalvesAreCut() {
        int[] asRange = {2, 2, 2, 3, 3, 3, 4, 4, 4, 5};
        for (int haste = 0; haste <= 9; haste++) {
            int[] due = {asRange[haste], asRange[haste] + 1, asRange[haste] / 2, asRange[haste],
                asRange[haste] - 1, asRange[haste] / 2};
            for (int kind = 0; kind < KINDS; kind++) {
                MountainFile x = one(kind);
                x.set(0, 2, haste);
                check.due("stride of kind " + kind + " with haste " + haste, x.of(0, 5), due[kind]);
            }
        }
    }

    private static void promise8AGlacierInTheSeasons() {
        MountainFile x = one(3);
        x.set(0, 2, 9);
        int[] strides = {5, 5, 0, 0, 5, 5, 0, 0, 5};
        for (int season = 0; season < strides.length; season++) {
            check.due("stride in season " + season, x.of(0, 5), strides[season]);
            x.seasons(1);
        }
        MountainFile late = Check.inSeason(9997);
        late.range(3, 0);
        check.due("the last summer", late.of(0, 5), 2);
        late.seasons(1);
        check.due("behind it", late.of(0, 5), 0);
        late.seasons(1);
        check.due("in season 9999", late.of(0, 5), 0);
    }

    private static void promise8FromNoOtherTwinToSeven() {
        MountainFile x = Lands.empty();
        for (int r = 0; r < 8; r++) {
            x.range(5, 2 * r);
            for (int twin = 0; twin <= r; twin++) {
                check.due("twin " + twin + " of " + (r + 1), x.of(twin, 5), 1 + r);
            }
        }
        x.set(0, 2, 9);
        check.due("with most haste", x.of(0, 5), 9);
        check.due("which is its own alone", x.of(7, 5), 8);
        x.turn(7, 2);
        check.due("a peak counts not", x.of(0, 5), 8);
        check.due("a peak counts none", x.of(7, 5), 1);
        x.level(1);
        check.due("a levelled one counts not", x.of(0, 5), 7);
    }

    private static void promise8TheFirstGoesBehindNobody() {
        edges.asked("of one alone", () -> one(0), -1, x -> x.of(0, 7));
        MountainFile x = eight();
        check.due("the first of eight", x.of(0, 7), -1);
        check.due("the last of eight", x.of(7, 7), 6);
        check.due("nobody is no finding", x.status(-1), 0);
        x.order(0, -1);
        check.due("the first now", x.of(7, 7), -1);
        check.due("the last now", x.of(0, 7), 1);
    }

    private static void promise8OfSeveralTheLesserNumber() {
        MountainFile x = eight();
        // By numbers and cells together all values are 0: 3 r - 3 r.
        x.order(0, 3);
        x.order(3, -1);
        for (int r = 0; r < 8; r++) {
            check.due("value of " + r, x.of(r, 6), 0);
            check.due("ahead of " + r, x.of(r, 7), r - 1);
        }
        x.set(7, 1, 22);
        check.due("one less by one", x.of(7, 6), -1);
        check.due("it is the first", x.of(7, 7), -1);
        check.due("0 is behind it", x.of(0, 7), 7);
        x.set(7, 1, 20);
        check.due("one more by one", x.of(7, 6), 1);
        check.due("it is the last", x.of(7, 7), 6);
    }

    private static void promise8TheGreatestValues() {
        MountainFile x = Lands.empty();
        x.range(1, 0);
        x.set(0, 2, 9);
        Check.goTo(x, 9999);
        x.set(0, 1, 23);
        check.due("steps", x.of(0, 3), 6 * 9999);
        for (int r = 1; r < 8; r++) {
            x.range(0, r);
        }
        for (int what = 0; what <= 3; what++) {
            x.order(what, 9);
        }
        check.due("value", x.of(0, 6), 9 * (9 + 6 * 9999 + 23));
        check.due("it is the last", x.of(0, 7), 7);
        for (int what = 0; what <= 3; what++) {
            x.order(what, -9);
        }
        check.due("value below 0", x.of(0, 6), -9 * (9 + 6 * 9999 + 23));
        check.due("it is the first", x.of(0, 7), -1);
        x.set(7, 2, 9);
        check.due("value of 7", x.of(7, 6), -9 * (7 + 9 + 7));
        check.due("a value is no finding", x.status(-1), 0);
    }

    private static void promise8NothingChanges() {
        for (int what = 0; what <= 7; what++) {
            int w = what;
            long due = Lands.full().of(7, w);
            edges.asked("of(7, " + w + ")", Lands::full, due, x -> x.of(7, w));
        }
    }

    // ---- promise 9: set

    private static void promise9RangesAndWhats() {
        edges.bounds("set(v, 1, 14)", Lands::some, 0, 2, (x, v) -> x.set(v, 1, 14));
        edges.bounds("set(v, 2, 3)", Lands::full, 0, 7, (x, v) -> x.set(v, 2, 3));
        edges.bounds("set(0, v, 5)", Lands::some, 1, 2, (x, v) -> x.set(0, v, 5));
        edges.refused("there is none", Lands::empty, Check.BEYOND, x -> x.set(0, 1, 0));
        for (int what : new int[] {0, 3, 4, 5, 6, 7}) {
            edges.refused("set(0, " + what + ", 1)", Lands::some, Check.BEYOND, x -> x.set(0, what, 1));
        }
    }

    private static void promise9CellsAndHastes() {
        edges.bounds("set(1, 1, v)", RangesEdgesTest::two, 0, 23, (x, v) -> x.set(1, 1, v));
        edges.bounds("set(1, 2, v)", RangesEdgesTest::two, 0, 9, (x, v) -> x.set(1, 2, v));
        MountainFile x = one(0);
        check.due("to the last cell", x.set(0, 1, 23), 0);
        check.due("to the first cell", x.set(0, 1, 0), 23);
        check.due("to most haste", x.set(0, 2, 9), 0);
        check.due("to no haste", x.set(0, 2, 0), 9);
        check.due("as it is", x.set(0, 2, 0), 0);
    }

    private static MountainFile two() {
        MountainFile x = new MountainFile();
        x.range(0, 12);
        x.range(0, 13);
        return x;
    }

    private static void promise9AnotherOneIsThere() {
        edges.refused("that of the last", RangesEdgesTest::eight, Check.STATE, x -> x.set(0, 1, 21));
        edges.refused("that of the first", RangesEdgesTest::eight, Check.STATE, x -> x.set(7, 1, 0));
        edges.asked("its own, the first", RangesEdgesTest::eight, 0, x -> x.set(0, 1, 0));
        edges.asked("its own, the last", RangesEdgesTest::eight, 21, x -> x.set(7, 1, 21));
        MountainFile x = eight();
        check.due("a free one", x.set(7, 1, 22), 21);
        check.due("the one that it left", x.set(0, 1, 21), 0);
    }

    private static void promise9BeyondIsAskedAheadOfState() {
        edges.refused("no such range, and taken", RangesEdgesTest::eight, Check.BEYOND, x -> x.set(8, 1, 0));
        edges.refused("range -1, and taken", RangesEdgesTest::eight, Check.BEYOND, x -> x.set(-1, 1, 0));
        edges.refused("no such what, and taken", RangesEdgesTest::eight, Check.BEYOND, x -> x.set(0, 3, 21));
    }

    private static void promise9AHasteThatIsACellOfAnotherOne() {
        MountainFile x = eight();
        check.due("haste 3, and range 1 is in cell 3", x.set(0, 2, 3), 0);
        check.due("no finding", x.status(-1), 0);
    }

    private static void promise9NothingElseOfItChanges() {
        MountainFile x = one(0);
        x.range(0, 1);
        x.seasons(4);
        x.set(0, 1, 20);
        x.set(0, 2, 5);
        check.due("steps", x.of(0, 3), 6);
        check.due("waits", x.of(0, 4), 1);
        check.due("kind", x.of(0, 0), 0);
    }

    // ---- promise 10: turn

    private static void promise10RangesAndKinds() {
        edges.bounds("turn(v, 1)", Lands::some, 0, 2, (x, v) -> x.turn(v, 1));
        edges.bounds("turn(v, 0)", Lands::full, 0, 7, (x, v) -> x.turn(v, 0));
        edges.bounds("turn(0, v)", Lands::some, 0, 5, (x, v) -> x.turn(0, v));
        edges.refused("there is none", Lands::empty, Check.BEYOND, x -> x.turn(0, 0));
        edges.refused("turn(3, 6)", Lands::some, Check.BEYOND, x -> x.turn(3, 6));
    }

    private static void promise10FromEachKindToEach() {
        for (int from = 0; from < KINDS; from++) {
            for (int to = 0; to < KINDS; to++) {
                MountainFile x = one(from);
                check.due("from " + from + " to " + to, x.turn(0, to), from);
                check.due("it is", x.of(0, 0), to);
            }
        }
        edges.asked("to what it is", Lands::some, 4, x -> x.turn(0, 4));
    }

    // ---- promise 11: as

    private static void promise11RangesAndKinds() {
        edges.bounds("as(v, 0)", Lands::some, 0, 2, (x, v) -> x.as(v, 0));
        edges.bounds("as(v, 0)", Lands::full, 0, 7, (x, v) -> x.as(v, 0));
        edges.bounds("as(0, v)", Lands::some, 0, 5, (x, v) -> x.as(0, v));
        edges.refused("there is none", Lands::empty, Check.BEYOND, x -> x.as(0, 0));
    }

    private static void promise11ItsKindAndThoseAboveIt() {
        boolean[][] is = {
            {true, false, false, false, false, false}, {true, true, false, false, false, false},
            {true, false, true, false, false, false}, {true, false, false, true, false, false},
            {true, true, false, false, true, false}, {true, false, true, false, false, true}};
        for (int own = 0; own < KINDS; own++) {
            int o = own;
            for (int kind = 0; kind < KINDS; kind++) {
                int k = kind;
                if (is[own][kind]) {
                    edges.asked(own + " as " + kind, () -> hasty(o), 7, x -> x.as(0, k));
                } else {
                    edges.refused(own + " as " + kind, () -> hasty(o), Check.KIND, x -> x.as(0, k));
                }
            }
        }
    }

    private static MountainFile hasty(int kind) {
        MountainFile x = one(kind);
        x.set(0, 2, 7);
        return x;
    }

    private static void promise11BeyondIsAskedAheadOfKind() {
        edges.refused("no such range as a twin", Lands::some, Check.BEYOND, x -> x.as(3, 5));
        edges.refused("a range as kind 6", () -> one(0), Check.BEYOND, x -> x.as(0, 6));
        edges.refused("a range as kind -1", () -> one(0), Check.BEYOND, x -> x.as(0, -1));
    }

    private static void promise11LeastAndMostHaste() {
        edges.asked("least", () -> one(0), 0, x -> x.as(0, 0));
        MountainFile x = one(5);
        x.set(0, 2, 9);
        check.due("most", x.as(0, 2), 9);
    }

    // ---- promise 12: level

    private static void promise12Ranges() {
        edges.bounds("level(v)", Lands::some, 0, 2, (x, v) -> x.level(v));
        edges.bounds("level(v)", Lands::full, 0, 7, (x, v) -> x.level(v));
        edges.refused("there is none", Lands::empty, Check.BEYOND, x -> x.level(0));
    }

    /** Each of eight, the first and the last among them: those behind it close up. */
    private static void promise12ThoseBehindItCloseUp() {
        for (int levelled = 0; levelled < 8; levelled++) {
            MountainFile x = eightOfAllSorts();
            MountainFile before = eightOfAllSorts();
            check.due("its steps", x.level(levelled), before.of(levelled, 3));
            check.due("seven are left", x.count(0), 7);
            check.due("there is no 7 now", x.of(7, 0), Check.BEYOND);
            for (int r = 0; r < 7; r++) {
                for (int what = 0; what <= 4; what++) {
                    int was = before.of(r < levelled ? r : r + 1, what);
                    check.due("without " + levelled + ": of(" + r + ", " + what + ")", x.of(r, what), was);
                }
            }
            check.due("nobody is there", x.cell(before.of(levelled, 1), 3), -1);
        }
    }

    /** Kinds, hastes, steps and waits are of all sorts. */
    private static MountainFile eightOfAllSorts() {
        MountainFile x = new MountainFile();
        for (int r = 0; r < 8; r++) {
            x.range(r % KINDS, 23 - 2 * r);
            x.set(r, 2, 9 - r);
        }
        x.pass(3, 7, 2);
        x.seasons(9);
        return x;
    }

    private static void promise12TheOnlyOne() {
        MountainFile x = one(1);
        x.seasons(2);
        check.due("its steps", x.level(0), 6);
        check.due("none", x.count(0), 0);
        check.due("nobody anywhere", x.now(3), 0);
        check.due("no steps", x.now(1), 0);
        check.due("once more", x.level(0), Check.BEYOND);
        check.due("a new one is 0", x.range(0, 0), 0);
    }

    private static void promise12OneThatNeverWent() {
        check.due("no steps", one(0).level(0), 0);
    }

    private static void promise12NothingElseChanges() {
        MountainFile x = Lands.full();
        MountainFile before = Lands.full();
        x.level(4);
        check.due("season", x.now(0), before.now(0));
        check.due("open passes", x.now(4), before.now(4));
        check.due("villages", x.count(1), 6);
        check.due("bytes", x.count(2), 120);
        check.due("passes", x.count(3), 24);
        check.due("what is kept", x.undo(), 8);
    }
}
