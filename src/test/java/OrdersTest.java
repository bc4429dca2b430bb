/** Promises 23 to 29: haste, orders, starts, kinds, swaps and journeys. */
public final class OrdersTest {
    private static final Check check = new Check();

    public static void main(String[] args) {
        promise23Haste();
        promise24Best();
        promise25Start();
        promise26Kind();
        promise27Swap();
        promise28Journey();
        promise29Sets();
        check.end();
    }

    private static void promise23Haste() {
        MountainFile x = new MountainFile();
        x.range(0, 0);
        x.set(0, 2, 7);
        x.seasons(5);
        check.due("no way in no time", x.haste(0, 0, 0), 0);
        check.due("a cell in no time", x.haste(0, 1, 0), Check.NONE);
        check.due("by none", x.haste(0, 20, 10), 0);
        check.due("a third", x.haste(0, 21, 10), 3);
        check.due("just so", x.haste(0, 30, 10), 3);
        check.due("more", x.haste(0, 31, 10), 6);
        check.due("most", x.haste(0, 50, 10), 9);
        check.due("too far", x.haste(0, 51, 10), Check.NONE);
        check.due("forty", x.haste(0, 200, 40), 9);
        check.due("farthest asked", x.haste(0, 999, 40), Check.NONE);
        check.due("its own stays", x.of(0, 2), 7);
        check.due("range -1", x.haste(-1, 0, 0), Check.BEYOND);
        check.due("range 1", x.haste(1, 0, 0), Check.BEYOND);
        check.due("d -1", x.haste(0, -1, 0), Check.BEYOND);
        check.due("d 1000", x.haste(0, 1000, 0), Check.BEYOND);
        check.due("n -1", x.haste(0, 0, -1), Check.BEYOND);
        check.due("n 41", x.haste(0, 0, 41), Check.BEYOND);
        check.due("NONE counted", x.status(3), 3);
        // Only with more haste than the peak does it go behind it by the order.
        MountainFile y = new MountainFile();
        y.range(0, 0);
        y.range(2, 1);
        y.set(1, 2, 2);
        y.order(1, 1);
        check.due("manners", y.haste(0, 1, 1), 3);
    }

    private static void promise24Best() {
        MountainFile x = new MountainFile();
        check.due("nobody", x.best(3, 40), -9);
        x.range(0, 0);
        x.range(0, 1);
        check.due("the greater number first", x.best(0, 1), -9);
        check.due("in no time all are alike", x.best(0, 0), -9);
        x.set(0, 1, 5);
        x.set(1, 1, 4);
        check.due("the lesser number first", x.best(0, 1), 0);
        check.due("the greater cell first", x.best(3, 1), -9);
        x.set(1, 1, 6);
        x.set(1, 2, 1);
        x.order(0, 3);
        // The one ahead goes first with a value below 0: 3 and the weight.
        check.due("haste", x.best(1, 1), -9);
        x.set(1, 2, 0);
        x.set(0, 2, 1);
        check.due("haste of the one behind", x.best(1, 1), 4);
        x.order(0, 8);
        check.due("by the most alone", x.best(1, 1), 9);
        check.due("nothing changed", x.order(1, 0), 0);
        check.due("what -1", x.best(-1, 1), Check.BEYOND);
        check.due("what 4", x.best(4, 1), Check.BEYOND);
        check.due("n -1", x.best(0, -1), Check.BEYOND);
        check.due("n 41", x.best(0, 41), Check.BEYOND);
        // The weight of steps: the one ahead has gone 2 and 1 waits first.
        MountainFile y = new MountainFile();
        y.range(0, 0);
        y.range(0, 1);
        y.seasons(1);
        y.set(1, 1, 1);
        check.due("steps", y.best(2, 1), -9);
        check.due("of all that are alike the least", y.best(1, 1), -9);
    }

    private static void promise25Start() {
        MountainFile x = new MountainFile();
        x.range(0, 7);
        check.due("all are alike", x.start(0, 40), 0);
        x.pass(3, 2, 0);
        check.due("a whole round", x.start(0, 40), 3);
        check.due("one stride", x.start(0, 1), 0);
        x.pass(3, 0, 0);
        x.range(2, 0);
        check.due("in no time: the least free one", x.start(0, 0), 1);
        check.due("in no time: its own counts", x.start(1, 0), 0);
        x.set(0, 1, 1);
        check.due("its own is the least", x.start(0, 1), 1);
        check.due("not that of another one", x.start(1, 0), 0);
        check.due("nothing changed", x.of(0, 1), 1);
        MountainFile y = new MountainFile();
        y.range(0, 0);
        y.range(0, 5);
        check.due("not that of the first one", y.start(1, 0), 1);
        MountainFile z = new MountainFile();
        z.range(0, 5);
        z.range(0, 23);
        for (int c = 1; c < 24; c++) {
            z.pass(c, 2, 0);
        }
        check.due("from nowhere but the taken last cell it could go", z.start(0, 1), 0);
        check.due("range -1", x.start(-1, 1), Check.BEYOND);
        check.due("range 2", x.start(2, 1), Check.BEYOND);
        check.due("n -1", x.start(0, -1), Check.BEYOND);
        check.due("n 41", x.start(0, 41), Check.BEYOND);
    }

    private static void promise26Kind() {
        MountainFile x = new MountainFile();
        x.range(4, 0);
        check.due("in no time", x.kind(0, 0), 0);
        check.due("a hill", x.kind(0, 1), 1);
        x.pass(2, 2, 0);
        check.due("of several the least", x.kind(0, 1), 0);
        x.pass(2, 0, 0);
        x.range(5, 22);
        x.range(5, 21);
        check.due("two other twins: as far as a hill", x.kind(0, 1), 1);
        x.range(5, 20);
        check.due("three other twins", x.kind(0, 1), 5);
        check.due("nothing changed", x.of(0, 0), 4);
        check.due("range -1", x.kind(-1, 1), Check.BEYOND);
        check.due("range 4", x.kind(4, 1), Check.BEYOND);
        check.due("n -1", x.kind(0, -1), Check.BEYOND);
        check.due("n 41", x.kind(0, 41), Check.BEYOND);
    }

    private static void promise27Swap() {
        MountainFile x = new MountainFile();
        check.due("nobody", x.swap(40), Check.NONE);
        x.range(0, 0);
        x.set(0, 2, 9);
        check.due("one alone", x.swap(40), Check.NONE);
        x.range(2, 1);
        check.due("the slow one behind", x.swap(1), 1);
        check.due("no more in no time", x.swap(0), Check.NONE);
        check.due("nothing changed", x.of(0, 1), 0);
        MountainFile y = new MountainFile();
        y.range(2, 12);
        y.range(0, 0);
        y.range(2, 1);
        y.set(1, 2, 9);
        // As it is 2; 0 and 1: 6, 0 and 2: 3, 1 and 2: 7.
        check.due("the best two", y.swap(1), 12);
        MountainFile z = new MountainFile();
        z.range(2, 0);
        z.range(2, 10);
        z.range(0, 20);
        z.range(2, 21);
        z.pass(22, 2, 0);
        // The range goes 2 in place of either peak that goes 1.
        check.due("of several the least", z.swap(1), 2);
        MountainFile w = new MountainFile();
        for (int r = 0; r < 8; r++) {
            w.range(0, 3 * r);
        }
        check.due("eight alike", w.swap(40), Check.NONE);
        check.due("n -1", x.swap(-1), Check.BEYOND);
        check.due("n 41", x.swap(41), Check.BEYOND);
        check.due("NONE counted", x.status(3), 3);
    }

    private static void promise28Journey() {
        MountainFile x = new MountainFile();
        check.due("nowhere", x.journey(9, 9), 0);
        check.due("round", x.journey(9, 8), 23);
        x.range(2, 5);
        check.due("behind a peak", x.journey(4, 6), 3);
        check.due("out of its cell, it is ahead of him", x.journey(5, 6), 1);
        x.pass(6, 2, 0);
        check.due("up to it only", x.journey(3, 4), 1);
        check.due("who stands", x.journey(4, 5), Check.NONE);
        check.due("what is shut", x.journey(5, 6), Check.NONE);
        check.due("cell -1", x.journey(-1, 0), Check.BEYOND);
        check.due("cell 24", x.journey(0, 24), Check.BEYOND);
        check.due("to -1", x.journey(0, -1), Check.BEYOND);
        check.due("from 24", x.journey(24, 24), Check.BEYOND);
        MountainFile y = Check.inSeason(1);
        y.pass(6, 4, 1);
        check.due("till it opens", y.journey(5, 6), 4);
        check.due("nobody went", y.now(0), 1);
        for (int season = 1; season <= 2; season++) {
            MountainFile z = Check.inSeason(season);
            for (int c = 1; c <= 10; c++) {
                z.pass(c, 9, 1);
            }
            check.due("from season " + season, z.journey(0, 9), season == 2 ? 80 : Check.NONE);
        }
        // He stands in nobody's way.
        MountainFile w = new MountainFile();
        w.range(0, 0);
        check.due("they go on over him", w.journey(1, 3), 2);
    }

    private static void promise29Sets() {
        MountainFile x = new MountainFile();
        check.due("at once", x.sets(0, 23), 0);
        check.due("nowhere", x.sets(4, 4), 0);
        x.pass(6, 4, 1);
        x.seasons(1);
        check.due("when it opens", x.sets(5, 6), 3);
        check.due("so that he needn't wait", x.sets(4, 6), 2);
        x.pass(6, 4, 0);
        check.due("never", x.sets(5, 6), Check.NONE);
        check.due("cell -1", x.sets(-1, 0), Check.BEYOND);
        check.due("cell 24", x.sets(24, 0), Check.BEYOND);
        check.due("to -1", x.sets(0, -1), Check.BEYOND);
        check.due("to 24", x.sets(0, 24), Check.BEYOND);
        check.due("NONE counted", x.status(3), 1);
        // Only in seasons 63 and 64 do the two open one right behind the other.
        MountainFile y = Check.inSeason(43);
        y.pass(1, 9, 1);
        y.pass(2, 8, 1);
        check.due("behind twenty", y.sets(0, 2), 20);
        MountainFile z = Check.inSeason(42);
        z.pass(1, 9, 1);
        z.pass(2, 8, 1);
        check.due("behind twenty-one is too late", z.sets(0, 2), 12);
        // From season 1 on it takes 81, so only who sets out later comes there.
        MountainFile w = Check.inSeason(1);
        for (int c = 1; c <= 10; c++) {
            w.pass(c, 9, 1);
        }
        check.due("the journey is told as from then", w.sets(0, 9), 8);
        // Found by trying: set out behind 3, it takes 80; else more.
        int[] periods = {8, 9, 9, 9, 8, 9, 8, 8, 8, 9, 8, 9, 7, 9};
        MountainFile v = Check.inSeason(125);
        for (int i = 0; i < periods.length; i++) {
            v.pass(i + 1, periods[i], 1);
        }
        check.due("eighty at best", v.sets(0, 14), 3);
        v.seasons(3);
        check.due("eighty from then", v.journey(0, 14), 80);
    }
}
