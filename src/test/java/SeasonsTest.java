/** Promises 13 to 18: seasons that go by, and what will be. */
public final class SeasonsTest {
    private static final Check check = new Check();

    public static void main(String[] args) {
        promise13Seasons();
        promise13Order();
        promise13Passes();
        promise13LastSeason();
        promise14Now();
        promise15On();
        promise16When();
        promise17Lit();
        promise18Sun();
        check.end();
    }

    private static void promise13Seasons() {
        MountainFile x = new MountainFile();
        check.due("nobody goes", x.seasons(80), 0);
        x.range(0, 22);
        check.due("one goes", x.seasons(1), 2);
        check.due("round", x.of(0, 1), 0);
        x.range(1, 12);
        check.due("two go", x.seasons(2), 2 + 4 + 6);
        check.due("season", x.now(0), 83);
        check.due("n 0", x.seasons(0), Check.BEYOND);
        check.due("n -1", x.seasons(-1), Check.BEYOND);
        check.due("n 81", x.seasons(81), Check.BEYOND);
        check.due("season stays", x.now(0), 83);
    }

    private static void promise13Order() {
        MountainFile x = new MountainFile();
        x.range(0, 0);
        x.range(0, 1);
        check.due("the one behind goes first", x.seasons(1), 2);
        check.due("it waits", x.of(0, 4), 1);
        check.due("it stays", x.of(0, 1), 0);
        check.due("the other one goes", x.of(1, 1), 3);
        check.due("and doesn't wait", x.of(1, 4), 0);
        MountainFile y = new MountainFile();
        y.range(0, 0);
        y.range(0, 1);
        y.order(0, -1);
        check.due("the one ahead goes first", y.seasons(1), 4);
        check.due("nobody waits", y.now(2), 0);
        MountainFile z = new MountainFile();
        z.range(1, 0);
        z.range(2, 2);
        check.due("a part of the way", z.seasons(1), 2);
        check.due("up to the next one", z.of(0, 1), 1);
        check.due("less far is a wait", z.of(0, 4), 1);
    }

    private static void promise13Passes() {
        MountainFile x = new MountainFile();
        x.range(0, 0);
        x.pass(2, 2, 1);
        x.pass(4, 2, 1);
        check.due("open in season 0", x.seasons(1), 2);
        check.due("in the pass", x.of(0, 1), 2);
        check.due("out of the shut pass, up to the next", x.seasons(1), 3);
        check.due("it waits", x.of(0, 4), 1);
        check.due("open again", x.seasons(1), 5);
        MountainFile z = new MountainFile();
        z.range(0, 23);
        z.range(0, 22);
        z.pass(0, 3, 0);
        z.pass(23, 3, 0);
        z.set(1, 1, 20);
        check.due("the first and the last cell are shut", z.seasons(3), 2);
        MountainFile y = new MountainFile();
        y.range(3, 0);
        check.due("a glacier in four seasons", y.seasons(4), 4);
        check.due("in winter it doesn't wait", y.of(0, 4), 0);
    }

    private static void promise13LastSeason() {
        MountainFile x = Check.inSeason(9930);
        x.range(0, 0);
        check.due("above 9999", x.seasons(70), Check.STATE);
        check.due("season stays", x.now(0), 9930);
        check.due("up to 9999", x.seasons(69), 138);
        check.due("season 9999", x.now(0), 9999);
        check.due("one more", x.seasons(1), Check.STATE);
        check.due("none, and too many", x.seasons(81), Check.BEYOND);
        check.due("on goes on", x.on(0, 80, 1), 138 + 160);
        check.due("STATE counted", x.status(4), 2);
    }

    private static void promise14Now() {
        MountainFile x = new MountainFile();
        x.range(0, 0);
        x.range(2, 1);
        x.range(1, 23);
        x.village(4);
        x.village(0);
        x.village(6);
        x.pass(0, 3, 1);
        x.pass(23, 3, 2);
        x.pass(11, 2, 0);
        check.due("cells", x.now(3), 1 << 0 | 1 << 1 | 1 << 23);
        check.due("open passes", x.now(4), 1 << 0 | 1 << 23);
        check.due("lit villages", x.now(5), 1 << 0 | 1 << 2);
        check.due("steps", x.seasons(1), 1);
        // 0 was blocked by 1, which went to 2; 2 was blocked by 0.
        check.due("season", x.now(0), 1);
        check.due("steps of all", x.now(1), 1);
        check.due("waits of all", x.now(2), 2);
        check.due("cells then", x.now(3), 1 << 0 | 1 << 2 | 1 << 23);
        check.due("open passes then", x.now(4), 1 << 23);
        int[] summer = {1, 1, 0, 0, 1, 1, 0, 0, 1};
        MountainFile y = new MountainFile();
        for (int season = 0; season < summer.length; season++) {
            check.due("summer in season " + season, y.now(6), summer[season]);
            y.seasons(1);
        }
        check.due("what -1", x.now(-1), Check.BEYOND);
        check.due("what 7", x.now(7), Check.BEYOND);
    }

    private static void promise15On() {
        MountainFile x = new MountainFile();
        x.range(0, 0);
        x.range(0, 1);
        x.seasons(1);
        // 0 is in cell 0, 1 in cell 3; each goes 2 a season from now on.
        check.due("cell now", x.on(0, 0, 0), 0);
        check.due("steps now", x.on(1, 0, 1), 2);
        check.due("waits now", x.on(0, 0, 2), 1);
        check.due("cell on", x.on(0, 13, 0), 2);
        check.due("steps on", x.on(1, 80, 1), 162);
        check.due("waits on", x.on(0, 80, 2), 1);
        check.due("nothing changes: season", x.now(0), 1);
        check.due("nothing changes: steps", x.now(1), 2);
        check.due("nothing changes: cells", x.now(3), 9);
        check.due("range -1", x.on(-1, 0, 0), Check.BEYOND);
        check.due("range 2", x.on(2, 0, 0), Check.BEYOND);
        check.due("n -1", x.on(0, -1, 0), Check.BEYOND);
        check.due("n 81", x.on(0, 81, 0), Check.BEYOND);
        check.due("what -1", x.on(0, 0, -1), Check.BEYOND);
        check.due("what 3", x.on(0, 0, 3), Check.BEYOND);
    }

    private static void promise16When() {
        MountainFile x = new MountainFile();
        x.range(0, 0);
        check.due("it is there", x.when(0, 0), 0);
        check.due("in five", x.when(0, 10), 5);
        check.due("it strides over it", x.when(0, 11), Check.NONE);
        x.set(0, 2, 9);
        check.due("in the second round", x.when(0, 1), 5);
        check.due("cell -1", x.when(0, -1), Check.BEYOND);
        check.due("cell 24", x.when(0, 24), Check.BEYOND);
        check.due("range 1", x.when(1, 0), Check.BEYOND);
        check.due("range -1", x.when(-1, 0), Check.BEYOND);
        check.due("NONE counted", x.status(3), 1);
        // A peak enters cell m in season 9 m: behind 9 m + 1 - now seasons.
        MountainFile late = Check.inSeason(2);
        slowWay(late);
        late.range(2, 0);
        check.due("in eighty", late.when(0, 9), 80);
        MountainFile later = Check.inSeason(1);
        slowWay(later);
        later.range(2, 0);
        check.due("in eighty-one", later.when(0, 9), Check.NONE);
    }

    private static void slowWay(MountainFile x) {
        for (int c = 1; c <= 10; c++) {
            x.pass(c, 9, 1);
        }
    }

    private static void promise17Lit() {
        MountainFile x = new MountainFile();
        x.village(2);
        x.village(23);
        check.due("lit now", x.lit(0), 0);
        x.range(2, 2);
        check.due("dark for two", x.lit(0), 2);
        check.due("the other one", x.lit(1), 0);
        x.pass(3, 2, 0);
        check.due("dark for good", x.lit(0), Check.NONE);
        check.due("village -1", x.lit(-1), Check.BEYOND);
        check.due("village 2", x.lit(2), Check.BEYOND);
        check.due("lit in eighty", queueInSeason(2).lit(0), 80);
        check.due("lit in eighty-one", queueInSeason(1).lit(0), Check.NONE);
    }

    /**
     * Eight peaks in a row, the first in the village: by two passes that open
     * each ninth season they leave it one by one, the last in season 81, and
     * none comes round to it again.
     */
    private static MountainFile queueInSeason(int season) {
        MountainFile x = Check.inSeason(season);
        x.village(8);
        x.pass(9, 9, 1);
        x.pass(10, 9, 1);
        x.pass(23, 2, 0);
        for (int r = 0; r < 8; r++) {
            x.range(2, 8 - r);
        }
        return x;
    }

    private static void promise18Sun() {
        MountainFile x = new MountainFile();
        x.village(4);
        check.due("always", x.sun(0, 80), 80);
        check.due("none of none", x.sun(0, 0), 0);
        x.range(0, 0);
        // Behind the seasons it is in 2, 4, 6, ..: dark behind 2, 14, 26, ..
        check.due("first", x.sun(0, 1), 1);
        check.due("second is dark", x.sun(0, 2), 1);
        check.due("a round", x.sun(0, 12), 11);
        check.due("up to the second round", x.sun(0, 14), 12);
        check.due("now counts not", x.villageOf(0, 1), 1);
        x.set(0, 1, 4);
        check.due("dark now, which counts not", x.sun(0, 11), 11);
        check.due("village 1", x.sun(1, 1), Check.BEYOND);
        check.due("village -1", x.sun(-1, 1), Check.BEYOND);
        check.due("n -1", x.sun(0, -1), Check.BEYOND);
        check.due("n 81", x.sun(0, 81), Check.BEYOND);
        check.due("lit in the eightieth", queueInSeason(2).sun(0, 80), 1);
        check.due("not in the seventy-ninth", queueInSeason(2).sun(0, 79), 0);
    }
}
