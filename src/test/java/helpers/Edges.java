import java.util.ArrayList;
import java.util.List;
import java.util.function.Supplier;

/**
 * What holds of every call at an edge: the answer, what is counted, and what it
 * leaves unchanged. Two lands are made alike, one of them gets the call, and
 * all that can be asked of both is held against each other.
 */
final class Edges {
    interface Act {
        long on(MountainFile x);
    }

    interface ActWith {
        long on(MountainFile x, int v);
    }

    private final Check check;

    Edges(Check check) {
        this.check = check;
    }

    /** It answers that finding, which is counted once, and changes nothing else. */
    void refused(String call, Supplier<MountainFile> land, int finding, Act act) {
        MountainFile x = land.get();
        MountainFile untouched = land.get();
        check.due(call, act.on(x), finding);
        long[] counted = findings(x);
        long[] before = findings(untouched);
        for (int which = -1; which <= 6; which++) {
            int more = which == -1 || which == Check.BEYOND - finding ? 1 : 0;
            check.due(call + ", then status(" + which + ")", counted[which + 1], before[which + 1] + more);
        }
        same(call + " changes nothing else", x, untouched);
    }

    /** It answers what is due, which is no finding, and changes nothing at all. */
    void asked(String call, Supplier<MountainFile> land, long due, Act act) {
        MountainFile x = land.get();
        MountainFile untouched = land.get();
        check.due(call, act.on(x), due);
        check.due(call + " is no finding", findings(x)[0], findings(untouched)[0]);
        same(call + " changes nothing", x, untouched);
    }

    /** From least to most it may be; what is below or above that is BEYOND. */
    void bounds(String call, Supplier<MountainFile> land, int least, int most, ActWith act) {
        for (int v : new int[] {Integer.MIN_VALUE, least - 1, most + 1, Integer.MAX_VALUE}) {
            refused(call + " with " + v, land, Check.BEYOND, x -> act.on(x, v));
        }
        for (int v : new int[] {least, most}) {
            MountainFile x = land.get();
            int before = x.status(0);
            check.holds(call + " with " + v + " is not BEYOND", act.on(x, v) != Check.BEYOND && x.status(0) == before);
        }
    }

    /** All that can be asked of the two, but for what is counted, is alike; both are used up. */
    void same(String what, MountainFile one, MountainFile other) {
        check.due(what, firstDifference(look(one), look(other)), -1);
    }

    private static long[] findings(MountainFile x) {
        long[] counted = new long[8];
        for (int which = -1; which <= 6; which++) {
            counted[which + 1] = x.status(which);
        }
        return counted;
    }

    private static int firstDifference(List<Long> some, List<Long> others) {
        int both = Math.min(some.size(), others.size());
        for (int i = 0; i < both; i++) {
            if (!some.get(i).equals(others.get(i))) {
                return i;
            }
        }
        return some.size() == others.size() ? -1 : both;
    }

    /**
     * All that can be asked, in some 350 calls at most: it uses the object up,
     * and together with what made the land stays below 512.
     */
    private static List<Long> look(MountainFile x) {
        List<Long> seen = new ArrayList<>();
        lookAtLand(x, seen);
        seen.add((long) x.land());
        lookAtCounts(x, seen);
        for (int s = 0; s < 4; s++) {
            lookAtSheet(x, s, seen);
        }
        seen.add((long) x.undo());
        lookAtLand(x, seen);
        return seen;
    }

    private static void lookAtLand(MountainFile x, List<Long> seen) {
        lookAtCounts(x, seen);
        for (int c = 0; c < 24; c++) {
            seen.add((long) x.cell(c, 0));
            seen.add((long) x.cell(c, 1));
        }
        int ranges = x.count(0);
        for (int r = 0; r < ranges; r++) {
            for (int what = 0; what <= 4; what++) {
                seen.add((long) x.of(r, what));
            }
        }
        int villages = x.count(1);
        for (int v = 0; v < villages; v++) {
            seen.add((long) x.villageOf(v, 0));
        }
        for (int w = 0; w < 4; w++) {
            seen.add((long) x.order(w, 0));
        }
    }

    private static void lookAtCounts(MountainFile x, List<Long> seen) {
        for (int what = 0; what <= 4; what++) {
            seen.add((long) x.count(what));
            seen.add((long) x.now(what));
        }
    }

    /** Numbers are asked by writing others; a long one comes back cut to the bits. */
    private static void lookAtSheet(MountainFile x, int s, List<Long> seen) {
        long was = 0;
        for (int i = 0; i <= 40 && was != Check.BEYOND && was != Check.MISSING; i++) {
            was = x.write(s, i, 0x123456789abL);
            seen.add(was);
        }
        seen.add(x.write(s, 0, 0));
    }
}
