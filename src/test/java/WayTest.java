/** Promises 1 to 6: a new object, and the way. */
public final class WayTest {
    private static final Check check = new Check();

    public static void main(String[] args) {
        promise1NewObject();
        promise2Pass();
        promise3Cell();
        promise4Village();
        promise5VillageOf();
        promise6Order();
        check.end();
    }

    private static void promise1NewObject() {
        MountainFile x = new MountainFile();
        for (int what = 0; what <= 4; what++) {
            check.due("new: count(" + what + ")", x.count(what), 0);
        }
        for (int what = 0; what <= 5; what++) {
            check.due("new: now(" + what + ")", x.now(what), 0);
        }
        check.due("new: now(6)", x.now(6), 1);
        for (int c = 0; c < 24; c++) {
            check.due("new: cell 0", x.cell(c, 0), 0);
            check.due("new: cell 1", x.cell(c, 1), 0);
            check.due("new: cell 2", x.cell(c, 2), 1);
            check.due("new: cell 3", x.cell(c, 3), -1);
        }
        for (int w = 0; w < 4; w++) {
            check.due("new: order", x.order(w, 0), 0);
        }
        check.due("new: status", x.status(-1), 0);
        check.due("new: of", x.of(0, 0), Check.BEYOND);
        check.due("new: villageOf", x.villageOf(0, 0), Check.BEYOND);
        check.due("new: wipe", x.wipe(), 0);
        check.due("new: undo", x.undo(), Check.NONE);
        check.due("new: tear", x.tear(), 0);
        for (int s = 0; s < 4; s++) {
            check.due("new: write", x.write(s, 0, 1), Check.MISSING);
        }
    }

    private static void promise2Pass() {
        MountainFile x = new MountainFile();
        check.due("pass new", x.pass(3, 2, 1), 0);
        check.due("pass again", x.pass(3, 5, 4), 1);
        check.due("pass period", x.cell(3, 0), 5);
        check.due("pass open", x.cell(3, 1), 4);
        check.due("pass none, open counts nothing", x.pass(3, 0, -77), 1);
        check.due("no pass period", x.cell(3, 0), 0);
        check.due("no pass open", x.cell(3, 1), 0);
        check.due("pass none again", x.pass(3, 0, 99), 0);
        check.due("least", x.pass(0, 2, 0), 0);
        check.due("most", x.pass(23, 9, 9), 0);
        check.due("always shut is a pass too", x.pass(0, 2, 2), 1);
        int[][] wrong = {
            {-1, 2, 1}, {24, 2, 1}, {-1, 0, 0}, {24, 0, 0}, {3, 1, 0}, {3, 10, 0}, {3, -1, 0}, {3, 2, -1},
            {3, 2, 3}, {3, 9, 10}, {Integer.MIN_VALUE, 2, 1}, {3, Integer.MAX_VALUE, 1}, {3, 9, Integer.MIN_VALUE}};
        for (int[] w : wrong) {
            check.due("wrong pass " + w[0] + " " + w[1] + " " + w[2], x.pass(w[0], w[1], w[2]), Check.BEYOND);
        }
        check.due("nothing changed", x.cell(3, 0), 0);
        check.due("passes", x.count(3), 2);
        check.due("findings", x.status(0), wrong.length);
    }

    private static void promise3Cell() {
        MountainFile x = new MountainFile();
        x.pass(7, 3, 2);
        int[] open = {1, 1, 0, 1, 1, 0, 1};
        for (int season = 0; season < open.length; season++) {
            check.due("cell(7, 2) in season " + season, x.cell(7, 2), open[season]);
            check.due("cell(8, 2) in season " + season, x.cell(8, 2), 1);
            x.seasons(1);
        }
        x.range(4, 7);
        x.range(0, 23);
        check.due("range in it", x.cell(7, 3), 0);
        check.due("range in the last", x.cell(23, 3), 1);
        check.due("nobody in it", x.cell(8, 3), -1);
        check.due("cell -1", x.cell(-1, 0), Check.BEYOND);
        check.due("cell 24", x.cell(24, 0), Check.BEYOND);
        check.due("what -1", x.cell(0, -1), Check.BEYOND);
        check.due("what 4", x.cell(0, 4), Check.BEYOND);
        check.due("findings", x.status(0), 4);
    }

    private static void promise4Village() {
        MountainFile x = new MountainFile();
        check.due("cell -1", x.village(-1), Check.BEYOND);
        check.due("cell 24", x.village(24), Check.BEYOND);
        for (int v = 0; v < 6; v++) {
            check.due("village " + v, x.village(23 * (v % 2)), v);
        }
        check.due("a 7th", x.village(5), Check.FULL);
        check.due("a 7th nowhere", x.village(24), Check.BEYOND);
        check.due("villages", x.count(1), 6);
        check.due("its cell", x.villageOf(5, 0), 23);
        check.due("FULL counted", x.status(1), 1);
        check.due("BEYOND counted", x.status(0), 3);
    }

    private static void promise5VillageOf() {
        MountainFile x = new MountainFile();
        x.village(23);
        x.village(10);
        check.due("cell of 0", x.villageOf(0, 0), 23);
        check.due("cell of 1", x.villageOf(1, 0), 10);
        check.due("lit with nobody", x.villageOf(0, 1), 1);
        x.range(0, 22);
        check.due("lit: one behind it", x.villageOf(0, 1), 1);
        x.set(0, 1, 23);
        check.due("dark: one in it", x.villageOf(0, 1), 0);
        x.set(0, 1, 0);
        check.due("dark: one in the next, round", x.villageOf(0, 1), 0);
        x.set(0, 1, 1);
        check.due("lit: one two cells on", x.villageOf(0, 1), 1);
        check.due("the other is lit", x.villageOf(1, 1), 1);
        x.set(0, 1, 11);
        check.due("the other is dark", x.villageOf(1, 1), 0);
        check.due("village -1", x.villageOf(-1, 0), Check.BEYOND);
        check.due("village 2", x.villageOf(2, 0), Check.BEYOND);
        check.due("what -1", x.villageOf(0, -1), Check.BEYOND);
        check.due("what 2", x.villageOf(0, 2), Check.BEYOND);
    }

    private static void promise6Order() {
        MountainFile x = new MountainFile();
        for (int w = 0; w < 4; w++) {
            check.due("first", x.order(w, -9 + w), 0);
            check.due("then", x.order(w, 9 - w), -9 + w);
            check.due("at last", x.order(w, 0), 9 - w);
        }
        x.order(2, 5);
        check.due("what -1", x.order(-1, 0), Check.BEYOND);
        check.due("what 4", x.order(4, 0), Check.BEYOND);
        check.due("weight -10", x.order(2, -10), Check.BEYOND);
        check.due("weight 10", x.order(2, 10), Check.BEYOND);
        check.due("nothing changed", x.order(2, 0), 5);
    }
}
