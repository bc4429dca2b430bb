/** Promises 7 to 12: ranges, their strides, their kinds and their order. */
public final class RangesTest {
    private static final Check check = new Check();

    public static void main(String[] args) {
        promise7Range();
        promise8Of();
        promise8Strides();
        promise8Order();
        promise9Set();
        promise10Turn();
        promise11As();
        promise12Level();
        check.end();
    }

    private static void promise7Range() {
        MountainFile x = new MountainFile();
        check.due("kind -1", x.range(-1, 0), Check.BEYOND);
        check.due("kind 6", x.range(6, 0), Check.BEYOND);
        check.due("cell -1", x.range(0, -1), Check.BEYOND);
        check.due("cell 24", x.range(0, 24), Check.BEYOND);
        for (int r = 0; r < 8; r++) {
            check.due("range " + r, x.range(r % 6, 23 - r), r);
            check.due("taken", x.range(0, 23 - r), Check.STATE);
            check.due("kind", x.of(r, 0), r % 6);
            check.due("cell", x.of(r, 1), 23 - r);
            check.due("haste", x.of(r, 2), 0);
            check.due("steps", x.of(r, 3), 0);
            check.due("waits", x.of(r, 4), 0);
        }
        check.due("a 9th", x.range(0, 0), Check.FULL);
        check.due("a 9th in a taken cell", x.range(0, 23), Check.STATE);
        check.due("a 9th of no kind in a taken cell", x.range(6, 23), Check.BEYOND);
        check.due("ranges", x.count(0), 8);
        check.due("BEYOND counted", x.status(0), 5);
        check.due("FULL counted", x.status(1), 1);
        check.due("STATE counted", x.status(4), 9);
    }

    private static void promise8Of() {
        MountainFile x = new MountainFile();
        x.range(5, 22);
        x.range(1, 23);
        x.set(1, 2, 4);
        x.seasons(1);
        // The twin goes first, by its number, and the hill is in its way.
        check.due("kind", x.of(0, 0), 5);
        check.due("cell that stood", x.of(0, 1), 22);
        check.due("steps of none", x.of(0, 3), 0);
        check.due("waits", x.of(0, 4), 1);
        check.due("cell round", x.of(1, 1), 3);
        check.due("haste", x.of(1, 2), 4);
        check.due("steps", x.of(1, 3), 4);
        check.due("no waits", x.of(1, 4), 0);
        x.order(0, 5);
        x.order(1, -2);
        x.order(2, 7);
        x.order(3, -9);
        check.due("value", x.of(1, 6), 5 - 8 + 28 - 27);
        check.due("value of 0", x.of(0, 6), -9 * 22);
        check.due("range -1", x.of(-1, 0), Check.BEYOND);
        check.due("range 2", x.of(2, 0), Check.BEYOND);
        check.due("what -1", x.of(0, -1), Check.BEYOND);
        check.due("what 8", x.of(0, 8), Check.BEYOND);
    }

    private static void promise8Strides() {
        MountainFile x = new MountainFile();
        x.range(0, 0);
        int[] hastes = {0, 2, 3, 5, 6, 8, 9};
        int[][] strides = {
            {2, 2, 3, 3, 4, 4, 5}, {3, 3, 4, 4, 5, 5, 6}, {1, 1, 1, 1, 2, 2, 2},
            {2, 2, 3, 3, 4, 4, 5}, {1, 1, 2, 2, 3, 3, 4}, {1, 1, 1, 1, 2, 2, 2}};
        for (int kind = 0; kind < 6; kind++) {
            x.turn(0, kind);
            for (int i = 0; i < hastes.length; i++) {
                x.set(0, 2, hastes[i]);
                check.due("stride of kind " + kind + " at haste " + hastes[i], x.of(0, 5), strides[kind][i]);
            }
        }
        x.turn(0, 3);
        int[] summer = {1, 1, 0, 0, 1, 1, 0, 0};
        for (int season = 0; season < summer.length; season++) {
            check.due("glacier in season " + season, x.of(0, 5), 5 * summer[season]);
            x.seasons(1);
        }
        MountainFile y = new MountainFile();
        for (int r = 0; r < 8; r++) {
            y.range(5, r);
            check.due("twin of " + (r + 1), y.of(0, 5), 1 + r);
            check.due("the last twin of " + (r + 1), y.of(r, 5), 1 + r);
        }
        y.turn(7, 2);
        check.due("a peak is no twin", y.of(0, 5), 7);
        check.due("twins are nothing to a peak", y.of(7, 5), 1);
    }

    private static void promise8Order() {
        MountainFile x = new MountainFile();
        x.range(0, 9);
        x.range(0, 3);
        x.range(0, 6);
        x.set(0, 2, 1);
        x.set(2, 2, 1);
        checkOrder("by number, all alike", x, -1, 0, 1);
        x.order(0, -1);
        checkOrder("number less", x, 1, 2, -1);
        x.order(0, 0);
        x.order(1, 1);
        checkOrder("haste, of several the lesser number", x, 1, -1, 0);
        x.order(1, -1);
        checkOrder("haste less", x, -1, 2, 0);
        x.order(1, 0);
        x.order(3, 1);
        checkOrder("cell", x, 2, -1, 1);
        x.order(3, -1);
        checkOrder("cell less", x, -1, 2, 0);
        x.order(3, 0);
        x.turn(1, 2);
        x.turn(2, 1);
        x.seasons(1);
        x.order(2, 1);
        checkOrder("steps", x, 1, -1, 0);
    }

    private static void checkOrder(String by, MountainFile x, int before0, int before1, int before2) {
        check.due(by + ": before 0", x.of(0, 7), before0);
        check.due(by + ": before 1", x.of(1, 7), before1);
        check.due(by + ": before 2", x.of(2, 7), before2);
    }

    private static void promise9Set() {
        MountainFile x = new MountainFile();
        x.range(0, 4);
        x.range(0, 5);
        check.due("cell", x.set(0, 1, 23), 4);
        check.due("its own cell", x.set(0, 1, 23), 23);
        check.due("cell 0", x.set(0, 1, 0), 23);
        check.due("another one is there", x.set(0, 1, 5), Check.STATE);
        check.due("the first one is there", x.set(1, 1, 0), Check.STATE);
        check.due("haste", x.set(0, 2, 9), 0);
        check.due("haste again", x.set(0, 2, 0), 9);
        check.due("haste 10", x.set(0, 2, 10), Check.BEYOND);
        check.due("haste -1", x.set(0, 2, -1), Check.BEYOND);
        check.due("cell 24", x.set(0, 1, 24), Check.BEYOND);
        check.due("cell -1", x.set(0, 1, -1), Check.BEYOND);
        check.due("what 0", x.set(0, 0, 1), Check.BEYOND);
        check.due("what 3", x.set(0, 3, 1), Check.BEYOND);
        check.due("range -1", x.set(-1, 1, 1), Check.BEYOND);
        check.due("no such range in a taken cell", x.set(2, 1, 5), Check.BEYOND);
        check.due("cell stays", x.of(0, 1), 0);
        check.due("haste stays", x.of(0, 2), 0);
        check.due("BEYOND counted", x.status(0), 8);
        check.due("STATE counted", x.status(4), 2);
    }

    private static void promise10Turn() {
        MountainFile x = new MountainFile();
        x.range(3, 4);
        x.set(0, 2, 7);
        check.due("to twin", x.turn(0, 5), 3);
        check.due("to range", x.turn(0, 0), 5);
        check.due("to the same", x.turn(0, 0), 0);
        check.due("haste stays", x.of(0, 2), 7);
        check.due("cell stays", x.of(0, 1), 4);
        check.due("kind -1", x.turn(0, -1), Check.BEYOND);
        check.due("kind 6", x.turn(0, 6), Check.BEYOND);
        check.due("range -1", x.turn(-1, 0), Check.BEYOND);
        check.due("range 1", x.turn(1, 0), Check.BEYOND);
        check.due("kind stays", x.of(0, 0), 0);
    }

    private static void promise11As() {
        boolean[][] under = {
            {true, false, false, false, false, false}, {true, true, false, false, false, false},
            {true, false, true, false, false, false}, {true, false, false, true, false, false},
            {true, true, false, false, true, false}, {true, false, true, false, false, true}};
        MountainFile x = new MountainFile();
        for (int own = 0; own < 6; own++) {
            x.range(own, own);
            x.set(own, 2, own + 3);
            for (int kind = 0; kind < 6; kind++) {
                check.due("kind " + own + " as " + kind, x.as(own, kind), under[own][kind] ? own + 3 : Check.KIND);
            }
        }
        check.due("KIND counted", x.status(2), 23);
        check.due("kind -1", x.as(0, -1), Check.BEYOND);
        check.due("kind 6", x.as(0, 6), Check.BEYOND);
        check.due("range -1", x.as(-1, 0), Check.BEYOND);
        check.due("range 6", x.as(6, 0), Check.BEYOND);
    }

    private static void promise12Level() {
        MountainFile x = new MountainFile();
        x.range(1, 0);
        x.range(2, 8);
        x.range(4, 16);
        x.set(2, 2, 9);
        x.seasons(2);
        check.due("range 3", x.level(3), Check.BEYOND);
        check.due("range -1", x.level(-1), Check.BEYOND);
        check.due("level the middle", x.level(1), 2);
        check.due("ranges", x.count(0), 2);
        check.due("first stays", x.of(0, 0), 1);
        check.due("closes up: kind", x.of(1, 0), 4);
        check.due("closes up: cell", x.of(1, 1), 0);
        check.due("closes up: haste", x.of(1, 2), 9);
        check.due("closes up: steps", x.of(1, 3), 8);
        check.due("its cell is free", x.cell(10, 3), -1);
        check.due("none behind", x.of(2, 0), Check.BEYOND);
        check.due("level the last", x.level(1), 8);
        check.due("level the first", x.level(0), 6);
        check.due("none left", x.level(0), Check.BEYOND);
        check.due("a new one", x.range(0, 10), 0);
        check.due("a new one has gone nowhere", x.of(0, 3), 0);
        check.due("a new one has no haste", x.of(0, 2), 0);
        MountainFile y = new MountainFile();
        y.range(0, 0);
        y.range(0, 1);
        y.pass(2, 2, 0);
        y.seasons(3);
        y.set(0, 1, 12);
        y.seasons(1);
        // 0 has waited 3 seasons behind 1, and 1 all 4 before the pass.
        check.due("level one that waited", y.level(0), 2);
        check.due("closes up: waits", y.of(0, 4), 4);
        y.level(0);
        y.range(0, 0);
        check.due("a new one has never waited", y.of(0, 4), 0);
        MountainFile z = new MountainFile();
        for (int r = 0; r < 8; r++) {
            z.range(0, 2 * r);
        }
        check.due("level one of eight", z.level(0), 0);
        check.due("seven are left", z.count(0), 7);
        check.due("the last one", z.of(6, 1), 14);
    }
}
