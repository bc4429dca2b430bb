/** Promises 39 to 43: images, counts and the status. */
public final class ImagesTest {
    private static final Check check = new Check();

    public static void main(String[] args) {
        promises39And40ImageAndUndo();
        promise40Latest();
        promise41Tear();
        promise42Count();
        promise43Status();
        check.end();
    }

    private static void promises39And40ImageAndUndo() {
        MountainFile x = new MountainFile();
        x.range(1, 3);
        x.range(2, 7);
        x.set(0, 2, 4);
        x.pass(9, 4, 3);
        x.village(11);
        x.order(2, -3);
        x.seasons(5);
        int steps = x.of(0, 3);
        int waits = x.of(0, 4);
        int cell = x.of(0, 1);
        check.due("image", x.image(), 1);
        Check.feedText(x, "free");
        x.sheet(0, 8, 2);
        changeAll(x);
        int findings = x.status(-1);
        check.due("undo", x.undo(), 2);
        check.due("kind", x.of(0, 0), 1);
        check.due("cell", x.of(0, 1), cell);
        check.due("haste", x.of(0, 2), 4);
        check.due("steps", x.of(0, 3), steps);
        check.due("waits", x.of(0, 4), waits);
        check.due("other", x.of(1, 0), 2);
        check.due("period", x.cell(9, 0), 4);
        check.due("open", x.cell(9, 1), 3);
        check.due("passes", x.count(3), 1);
        check.due("villages", x.count(1), 1);
        check.due("village", x.villageOf(0, 0), 11);
        check.due("weight", x.order(2, -3), -3);
        check.due("other weight", x.order(0, 0), 0);
        check.due("season", x.now(0), 5);
        check.due("the tape is no part of it", x.count(2), 4);
        check.due("sheets are no part of it", x.write(0, 1, 0), 0);
        check.due("findings are no part of it", x.status(-1), findings);
        changeAll(x);
        check.due("it stays", x.undo(), 2);
        check.due("season again", x.now(0), 5);
        check.due("haste again", x.of(0, 2), 4);
    }

    private static void changeAll(MountainFile x) {
        x.level(1);
        x.turn(0, 3);
        x.set(0, 2, 9);
        x.pass(9, 2, 0);
        x.pass(10, 2, 0);
        x.village(2);
        x.order(2, 1);
        x.order(0, 1);
        x.seasons(3);
        x.now(99);
    }

    private static void promise40Latest() {
        MountainFile x = new MountainFile();
        check.due("nothing kept", x.undo(), Check.NONE);
        check.due("NONE counted", x.status(3), 1);
        x.image();
        x.range(0, 0);
        x.image();
        x.range(0, 5);
        check.due("the latest", x.undo(), 1);
        check.due("the latest stays", x.undo(), 1);
        MountainFile y = new MountainFile();
        y.image();
        y.range(0, 0);
        check.due("an empty one", y.undo(), 0);
    }

    private static void promise41Tear() {
        MountainFile x = new MountainFile();
        check.due("nothing was", x.tear(), 0);
        x.range(0, 0);
        x.image();
        check.due("something was", x.tear(), 1);
        check.due("nothing is", x.tear(), 0);
        check.due("no undo", x.undo(), Check.NONE);
        check.due("what there is stays", x.count(0), 1);
    }

    private static void promise42Count() {
        MountainFile x = new MountainFile();
        x.range(0, 0);
        x.range(0, 1);
        x.set(0, 2, 9);
        x.set(1, 2, 8);
        x.village(3);
        x.feed(0, 3);
        x.pass(0, 2, 0);
        x.pass(1, 2, 2);
        x.pass(2, 2, 1);
        x.pass(2, 0, 0);
        int[] counts = {2, 1, 3, 2, 17};
        for (int what = 0; what < counts.length; what++) {
            check.due("count(" + what + ")", x.count(what), counts[what]);
        }
        x.level(0);
        check.due("haste of those left", x.count(4), 8);
        check.due("what -1", x.count(-1), Check.BEYOND);
        check.due("what 5", x.count(5), Check.BEYOND);
    }

    private static void promise43Status() {
        MountainFile x = new MountainFile();
        x.cell(24, 0);
        x.cell(24, 0);
        for (int v = 0; v < 9; v++) {
            x.village(0);
        }
        x.range(0, 0);
        for (int i = 0; i < 4; i++) {
            x.as(0, 1);
        }
        for (int i = 0; i < 5; i++) {
            x.undo();
        }
        for (int i = 0; i < 6; i++) {
            x.range(0, 0);
        }
        for (int i = 0; i < 7; i++) {
            x.write(0, 0, 0);
        }
        for (int i = 0; i < 8; i++) {
            x.sheet(0, 0, -1);
        }
        for (int which = 0; which <= 6; which++) {
            check.due("status(" + which + ")", x.status(which), 2 + which);
        }
        check.due("all", x.status(-1), 35);
        check.due("status asks count not", x.status(-1), 35);
        check.due("which 7", x.status(7), Check.BEYOND);
        check.due("counted from then on", x.status(0), 3);
        check.due("which -2", x.status(-2), Check.BEYOND);
        check.due("all then", x.status(-1), 37);
        x.image();
        x.cell(24, 0);
        x.undo();
        check.due("undo takes none back", x.status(0), 5);
        Check.landOf(x, "lake");
        check.due("a fault is no finding", x.status(-1), 38);
    }
}
