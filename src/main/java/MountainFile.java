/**
 * A land whose ranges walk in file round a way of 24 cells. The promises that
 * are named by number here are those of the document (shared/DOC.md).
 *
 * No call makes an object: all rows are made with the object and used again.
 */
public final class MountainFile {
    private static final int BEYOND = -1000000001;
    private static final int FULL = -1000000002;
    private static final int KIND = -1000000003;
    private static final int NONE = -1000000004;
    private static final int STATE = -1000000005;
    private static final int MISSING = -1000000006;
    private static final int SIZE = -1000000007;
    private static final int FINDINGS = 7;

    private static final int CELLS = 24;
    private static final int MOST_RANGES = 8;
    private static final int MOST_VILLAGES = 6;
    private static final int WEIGHTS = 4;
    private static final int MOST_WEIGHT = 9;
    private static final int MOST_HASTE = 9;
    private static final int LEAST_PERIOD = 2;
    private static final int MOST_PERIOD = 9;
    private static final int LAST_SEASON = 9999;
    private static final int LONG_VIEW = 80;
    private static final int SHORT_VIEW = 40;
    private static final int MOST_DELAY = 20;
    private static final int MOST_DISTANCE = 999;

    private static final int KINDS = 6;
    private static final int RANGE = 0;
    private static final int HILL = 1;
    private static final int PEAK = 2;
    private static final int GLACIER = 3;
    private static final int MOOR = 4;
    private static final int TWIN = 5;

    private static final int WEIGHT_OF_NUMBER = 0;
    private static final int WEIGHT_OF_HASTE = 1;
    private static final int WEIGHT_OF_STEPS = 2;
    private static final int WEIGHT_OF_CELL = 3;

    private static final int MOST_BYTES = 120;
    private static final int SHEETS = 4;
    private static final int MOST_NUMBERS = 40;

    private final Land here;
    private final Land kept;
    private final Foresight foresight;
    private final Tape tape;
    private final Sheet[] sheets;
    private final int[] findings;
    private boolean isKept;

    public MountainFile() {
        Land land = new Land();
        here = land;
        kept = new Land();
        foresight = new Foresight(land);
        tape = new Tape();
        sheets = new Sheet[SHEETS];
        for (int s = 0; s < SHEETS; s++) {
            sheets[s] = new Sheet();
        }
        findings = new int[FINDINGS];
        isKept = false;
    }

    // ---- the way

    public int pass(int cell, int period, int open) {
        if (!isCell(cell) || !mayBePass(period, open)) {
            return finding(BEYOND);
        }
        int was = here.isPass(cell) ? 1 : 0;
        here.putPass(cell, period, open);
        return was;
    }

    public int cell(int cell, int what) {
        if (!isCell(cell)) {
            return finding(BEYOND);
        }
        switch (what) {
            case 0:
                return here.periods[cell];
            case 1:
                return here.opens[cell];
            case 2:
                return here.isOpen(cell) ? 1 : 0;
            case 3:
                return here.rangeIn(cell);
            default:
                return finding(BEYOND);
        }
    }

    public int village(int cell) {
        if (!isCell(cell)) {
            return finding(BEYOND);
        }
        if (here.villages >= MOST_VILLAGES) {
            return finding(FULL);
        }
        return here.addVillage(cell);
    }

    public int villageOf(int village, int what) {
        if (!isVillage(village)) {
            return finding(BEYOND);
        }
        switch (what) {
            case 0:
                return here.homes[village];
            case 1:
                return here.isLit(village) ? 1 : 0;
            default:
                return finding(BEYOND);
        }
    }

    public int order(int what, int v) {
        if (!isBetween(what, 0, WEIGHTS - 1) || !isBetween(v, -MOST_WEIGHT, MOST_WEIGHT)) {
            return finding(BEYOND);
        }
        int was = here.weights[what];
        here.weights[what] = v;
        return was;
    }

    // ---- ranges

    public int range(int kind, int cell) {
        if (!isKind(kind) || !isCell(cell)) {
            return finding(BEYOND);
        }
        if (here.rangeIn(cell) >= 0) {
            return finding(STATE);
        }
        if (here.ranges >= MOST_RANGES) {
            return finding(FULL);
        }
        return here.addRange(kind, cell, 0);
    }

    public int of(int range, int what) {
        if (!isRange(range)) {
            return finding(BEYOND);
        }
        switch (what) {
            case 0:
                return here.kinds[range];
            case 1:
                return here.cells[range];
            case 2:
                return here.hastes[range];
            case 3:
                return here.steps[range];
            case 4:
                return here.waits[range];
            case 5:
                return here.strideOf(range);
            case 6:
                return here.worth(range);
            case 7:
                return here.whoGoesBefore(range);
            default:
                return finding(BEYOND);
        }
    }

    public int set(int range, int what, int v) {
        if (!isRange(range)) {
            return finding(BEYOND);
        }
        if (what == 1 && isCell(v)) {
            return moveTo(range, v);
        }
        if (what == 2 && isBetween(v, 0, MOST_HASTE)) {
            int was = here.hastes[range];
            here.hastes[range] = v;
            return was;
        }
        return finding(BEYOND);
    }

    private int moveTo(int range, int cell) {
        int there = here.rangeIn(cell);
        if (there >= 0 && there != range) {
            return finding(STATE);
        }
        int was = here.cells[range];
        here.cells[range] = cell;
        return was;
    }

    public int turn(int range, int kind) {
        if (!isRange(range) || !isKind(kind)) {
            return finding(BEYOND);
        }
        int was = here.kinds[range];
        here.kinds[range] = kind;
        return was;
    }

    public int as(int range, int kind) {
        if (!isRange(range) || !isKind(kind)) {
            return finding(BEYOND);
        }
        if (!isOrIsUnder(here.kinds[range], kind)) {
            return finding(KIND);
        }
        return here.hastes[range];
    }

    public int level(int range) {
        if (!isRange(range)) {
            return finding(BEYOND);
        }
        int gone = here.steps[range];
        here.removeRange(range);
        return gone;
    }

    // ---- seasons

    public int seasons(int n) {
        if (!isBetween(n, 1, LONG_VIEW)) {
            return finding(BEYOND);
        }
        if (here.season + n > LAST_SEASON) {
            return finding(STATE);
        }
        here.goSeasons(n);
        return here.allSteps();
    }

    public int now(int what) {
        switch (what) {
            case 0:
                return here.season;
            case 1:
                return here.allSteps();
            case 2:
                return here.allWaits();
            case 3:
                return here.takenCells();
            case 4:
                return here.openPasses();
            case 5:
                return here.litVillages();
            case 6:
                return here.isSummer() ? 1 : 0;
            default:
                return finding(BEYOND);
        }
    }

    public int on(int range, int n, int what) {
        if (!isRange(range) || !isBetween(n, 0, LONG_VIEW)) {
            return finding(BEYOND);
        }
        switch (what) {
            case 0:
                return foresight.after(n).cells[range];
            case 1:
                return foresight.after(n).steps[range];
            case 2:
                return foresight.after(n).waits[range];
            default:
                return finding(BEYOND);
        }
    }

    public int when(int range, int cell) {
        if (!isRange(range) || !isCell(cell)) {
            return finding(BEYOND);
        }
        return orNone(foresight.seasonsUntilIn(range, cell));
    }

    public int lit(int village) {
        if (!isVillage(village)) {
            return finding(BEYOND);
        }
        return orNone(foresight.seasonsUntilLit(village));
    }

    public int sun(int village, int n) {
        if (!isVillage(village) || !isBetween(n, 0, LONG_VIEW)) {
            return finding(BEYOND);
        }
        return foresight.litSeasons(village, n);
    }

    // ---- who waits, who stands

    public int stands() {
        return foresight.standing();
    }

    public int ahead(int range) {
        if (!isRange(range)) {
            return finding(BEYOND);
        }
        return here.rangeAhead(range);
    }

    public int file(int range) {
        if (!isRange(range)) {
            return finding(BEYOND);
        }
        int members = 0;
        int member = range;
        for (int i = 0; i < MOST_RANGES && isRange(member); i++) {
            members |= 1 << member;
            member = here.rangeAhead(member);
        }
        return members;
    }

    public int frees() {
        return orNone(foresight.bestToLevel());
    }

    // ---- haste, orders

    public int haste(int range, int d, int n) {
        if (!isRange(range) || !isBetween(d, 0, MOST_DISTANCE) || !isBetween(n, 0, SHORT_VIEW)) {
            return finding(BEYOND);
        }
        return orNone(foresight.leastHaste(range, d, n));
    }

    public int best(int what, int n) {
        if (!isBetween(what, 0, WEIGHTS - 1) || !isBetween(n, 0, SHORT_VIEW)) {
            return finding(BEYOND);
        }
        return foresight.bestWeight(what, n);
    }

    public int start(int range, int n) {
        if (!isRange(range) || !isBetween(n, 0, SHORT_VIEW)) {
            return finding(BEYOND);
        }
        return foresight.bestCell(range, n);
    }

    public int kind(int range, int n) {
        if (!isRange(range) || !isBetween(n, 0, SHORT_VIEW)) {
            return finding(BEYOND);
        }
        return foresight.bestKind(range, n);
    }

    public int swap(int n) {
        if (!isBetween(n, 0, SHORT_VIEW)) {
            return finding(BEYOND);
        }
        return orNone(foresight.bestPair(n));
    }

    // ---- journeys

    public int journey(int from, int to) {
        if (!isCell(from) || !isCell(to)) {
            return finding(BEYOND);
        }
        return orNone(foresight.journeyLength(from, to));
    }

    public int sets(int from, int to) {
        if (!isCell(from) || !isCell(to)) {
            return finding(BEYOND);
        }
        return orNone(foresight.bestDelay(from, to));
    }

    // ---- the text

    public int feed(int bytes, int n) {
        if (!isBetween(n, 1, 4)) {
            return finding(BEYOND);
        }
        if (tape.size + n > MOST_BYTES) {
            return finding(FULL);
        }
        tape.append(bytes, n);
        return tape.size;
    }

    public int wipe() {
        int had = tape.size;
        tape.size = 0;
        return had;
    }

    public int land() {
        Land told = foresight.copyOfHere();
        int answer = tape.tell(told);
        tape.size = 0;
        if (answer >= 0) {
            here.becomes(told);
        }
        return answer;
    }

    // ---- sheets

    public int sheet(int s, int bits, int n) {
        Sheet sheet = sheetAt(s);
        if (sheet == null || !mayBeBits(bits)) {
            return finding(BEYOND);
        }
        if (n < 0) {
            return finding(SIZE);
        }
        if (n > MOST_NUMBERS) {
            return finding(BEYOND);
        }
        sheet.renew(bits, n);
        return sheet.size;
    }

    public long write(int s, int i, long v) {
        Sheet sheet = sheetAt(s);
        if (sheet == null) {
            return finding(BEYOND);
        }
        if (sheet.isMissing()) {
            return finding(MISSING);
        }
        if (!isBetween(i, 0, sheet.size - 1)) {
            return finding(BEYOND);
        }
        long was = sheet.numbers[i];
        sheet.put(i, v);
        return was;
    }

    public int copy(int s, int from, int t, int to, int n) {
        Sheet source = sheetAt(s);
        Sheet target = sheetAt(t);
        if (source == null || target == null) {
            return finding(BEYOND);
        }
        if (source.isMissing() || target.isMissing()) {
            return finding(MISSING);
        }
        if (source.bits != target.bits) {
            return finding(KIND);
        }
        if (!source.holds(from, n) || !target.holds(to, n)) {
            return finding(BEYOND);
        }
        System.arraycopy(source.numbers, from, target.numbers, to, n);
        return n;
    }

    public int lays(int s) {
        Sheet sheet = sheetAt(s);
        if (sheet == null) {
            return finding(BEYOND);
        }
        if (sheet.isMissing()) {
            return finding(MISSING);
        }
        int came = 0;
        for (int r = 0; r < here.ranges && r < sheet.size; r++) {
            long number = sheet.numbers[r];
            if (number >= 0 && number <= MOST_HASTE) {
                here.hastes[r] = (int) number;
                came++;
            }
        }
        return came;
    }

    public int book(int s, int range) {
        Sheet sheet = sheetAt(s);
        if (sheet == null) {
            return finding(BEYOND);
        }
        if (sheet.isMissing()) {
            return finding(MISSING);
        }
        if (!isRange(range)) {
            return finding(BEYOND);
        }
        foresight.bookCells(sheet, range);
        return sheet.size;
    }

    public int read(int s, int range) {
        Sheet sheet = sheetAt(s);
        if (sheet == null) {
            return finding(BEYOND);
        }
        if (sheet.isMissing()) {
            return finding(MISSING);
        }
        if (!isRange(range)) {
            return finding(BEYOND);
        }
        return foresight.matchingPairs(sheet, range);
    }

    // ---- images

    public int image() {
        kept.becomes(here);
        isKept = true;
        return 1;
    }

    public int undo() {
        if (!isKept) {
            return finding(NONE);
        }
        here.becomes(kept);
        return here.ranges;
    }

    public int tear() {
        int was = isKept ? 1 : 0;
        isKept = false;
        return was;
    }

    public int count(int what) {
        switch (what) {
            case 0:
                return here.ranges;
            case 1:
                return here.villages;
            case 2:
                return tape.size;
            case 3:
                return here.allPasses();
            case 4:
                return here.allHaste();
            default:
                return finding(BEYOND);
        }
    }

    public int status(int which) {
        if (!isBetween(which, -1, FINDINGS - 1)) {
            return finding(BEYOND);
        }
        if (which >= 0) {
            return findings[which];
        }
        int all = 0;
        for (int f = 0; f < FINDINGS; f++) {
            all += findings[f];
        }
        return all;
    }

    // ---- what the calls share

    private int finding(int which) {
        int place = BEYOND - which;
        if (place >= 0 && place < FINDINGS) {
            findings[place]++;
        }
        return which;
    }

    private int orNone(int answer) {
        return answer < 0 ? finding(NONE) : answer;
    }

    private boolean isRange(int range) {
        return range >= 0 && range < here.ranges;
    }

    private boolean isVillage(int village) {
        return village >= 0 && village < here.villages;
    }

    private Sheet sheetAt(int s) {
        return s >= 0 && s < SHEETS ? sheets[s] : null;
    }

    private static boolean isBetween(int number, int least, int most) {
        return number >= least && number <= most;
    }

    private static boolean isCell(int cell) {
        return isBetween(cell, 0, CELLS - 1);
    }

    private static boolean isKind(int kind) {
        return isBetween(kind, 0, KINDS - 1);
    }

    private static boolean mayBePass(int period, int open) {
        return period == 0
            || isBetween(period, LEAST_PERIOD, MOST_PERIOD) && isBetween(open, 0, period);
    }

    private static boolean mayBeBits(int bits) {
        return bits == 0 || bits == 8 || bits == 16 || bits == 64;
    }

    private static boolean isOrIsUnder(int kind, int upper) {
        int at = kind;
        for (int i = 0; i < KINDS && at != upper; i++) {
            at = kindAbove(at);
        }
        return at == upper;
    }

    private static int kindAbove(int kind) {
        switch (kind) {
            case MOOR:
                return HILL;
            case TWIN:
                return PEAK;
            default:
                return RANGE;
        }
    }

    private static int nextCell(int cell) {
        return cell >= CELLS - 1 ? 0 : cell + 1;
    }

    private static boolean isIn(int set, int number) {
        return (set >> number & 1) != 0;
    }

    /** All that section 1 of the document tells, but for the tape. */
    private static final class Land {
        private int season;
        private int ranges;
        private int villages;
        private final int[] periods = new int[CELLS];
        private final int[] opens = new int[CELLS];
        private final int[] homes = new int[MOST_VILLAGES];
        private final int[] weights = new int[WEIGHTS];
        private final int[] kinds = new int[MOST_RANGES];
        private final int[] cells = new int[MOST_RANGES];
        private final int[] hastes = new int[MOST_RANGES];
        private final int[] steps = new int[MOST_RANGES];
        private final int[] waits = new int[MOST_RANGES];
        // The two rows below are scratch for the order: no part of the state.
        private final int[] worths = new int[MOST_RANGES];
        private final int[] turns = new int[MOST_RANGES];

        private void becomes(Land other) {
            season = other.season;
            ranges = other.ranges;
            villages = other.villages;
            System.arraycopy(other.periods, 0, periods, 0, CELLS);
            System.arraycopy(other.opens, 0, opens, 0, CELLS);
            System.arraycopy(other.homes, 0, homes, 0, MOST_VILLAGES);
            System.arraycopy(other.weights, 0, weights, 0, WEIGHTS);
            System.arraycopy(other.kinds, 0, kinds, 0, MOST_RANGES);
            System.arraycopy(other.cells, 0, cells, 0, MOST_RANGES);
            System.arraycopy(other.hastes, 0, hastes, 0, MOST_RANGES);
            System.arraycopy(other.steps, 0, steps, 0, MOST_RANGES);
            System.arraycopy(other.waits, 0, waits, 0, MOST_RANGES);
        }

        private void putPass(int cell, int period, int open) {
            periods[cell] = period;
            opens[cell] = period == 0 ? 0 : open;
        }

        private boolean isPass(int cell) {
            return periods[cell] > 0;
        }

        private boolean isOpen(int cell) {
            int period = periods[cell];
            return period <= 0 || season % period < opens[cell];
        }

        private boolean isSummer() {
            return season % 4 < 2;
        }

        private int addVillage(int cell) {
            homes[villages] = cell;
            villages++;
            return villages - 1;
        }

        private boolean isLit(int village) {
            int home = homes[village];
            return rangeIn(home) < 0 && rangeIn(nextCell(home)) < 0;
        }

        private int addRange(int kind, int cell, int haste) {
            int range = ranges;
            kinds[range] = kind;
            cells[range] = cell;
            hastes[range] = haste;
            steps[range] = 0;
            waits[range] = 0;
            ranges++;
            return range;
        }

        private void removeRange(int range) {
            for (int r = range; r + 1 < ranges; r++) {
                kinds[r] = kinds[r + 1];
                cells[r] = cells[r + 1];
                hastes[r] = hastes[r + 1];
                steps[r] = steps[r + 1];
                waits[r] = waits[r + 1];
            }
            ranges--;
        }

        private void changePlaces(int one, int other) {
            int cell = cells[one];
            cells[one] = cells[other];
            cells[other] = cell;
        }

        private int rangeIn(int cell) {
            for (int r = 0; r < ranges; r++) {
                if (cells[r] == cell) {
                    return r;
                }
            }
            return -1;
        }

        private int rangeAhead(int range) {
            int next = nextCell(cells[range]);
            return isOpen(next) ? rangeIn(next) : -1;
        }

        private int otherTwins(int range) {
            int twins = 0;
            for (int r = 0; r < ranges; r++) {
                if (r != range && kinds[r] == TWIN) {
                    twins++;
                }
            }
            return twins;
        }

        private int strideOf(int range) {
            int asRange = 2 + hastes[range] / 3;
            switch (kinds[range]) {
                case HILL:
                    return asRange + 1;
                case PEAK:
                    return asRange / 2;
                case GLACIER:
                    return isSummer() ? asRange : 0;
                case MOOR:
                    return Math.max(0, asRange + 1 - 2);
                case TWIN:
                    return asRange / 2 + otherTwins(range);
                default:
                    return asRange;
            }
        }

        /** What the document calls VALUE. */
        private int worth(int range) {
            return range * weights[WEIGHT_OF_NUMBER]
                + hastes[range] * weights[WEIGHT_OF_HASTE]
                + steps[range] * weights[WEIGHT_OF_STEPS]
                + cells[range] * weights[WEIGHT_OF_CELL];
        }

        /** Of equal worth the lesser number keeps its place: it came first. */
        private void putInOrder() {
            for (int r = 0; r < ranges; r++) {
                int worth = worth(r);
                worths[r] = worth;
                int place = r;
                while (place > 0 && worths[turns[place - 1]] > worth) {
                    turns[place] = turns[place - 1];
                    place--;
                }
                turns[place] = r;
            }
        }

        private int whoGoesBefore(int range) {
            putInOrder();
            int before = -1;
            for (int i = 0; i < ranges && turns[i] != range; i++) {
                before = turns[i];
            }
            return before;
        }

        private void goSeasons(int n) {
            for (int i = 0; i < n; i++) {
                goSeason();
            }
        }

        private void goSeason() {
            putInOrder();
            int shut = shutCells();
            int taken = takenCells();
            for (int i = 0; i < ranges; i++) {
                taken = goStride(turns[i], strideOf(turns[i]), shut, taken);
            }
            season++;
        }

        /** Answers the set of cells that are taken when the range has gone. */
        private int goStride(int range, int stride, int shut, int taken) {
            int at = cells[range];
            int others = taken & ~(1 << at);
            int blocked = shut | others;
            int gone = 0;
            while (gone < stride && !isIn(blocked, nextCell(at))) {
                at = nextCell(at);
                gone++;
            }
            cells[range] = at;
            steps[range] += gone;
            if (gone < stride) {
                waits[range]++;
            }
            return others | 1 << at;
        }

        private int shutCells() {
            int shut = 0;
            for (int c = 0; c < CELLS; c++) {
                if (!isOpen(c)) {
                    shut |= 1 << c;
                }
            }
            return shut;
        }

        private int takenCells() {
            int taken = 0;
            for (int r = 0; r < ranges; r++) {
                taken |= 1 << cells[r];
            }
            return taken;
        }

        private int openPasses() {
            int passes = 0;
            for (int c = 0; c < CELLS; c++) {
                if (isPass(c) && isOpen(c)) {
                    passes |= 1 << c;
                }
            }
            return passes;
        }

        private int litVillages() {
            int lit = 0;
            for (int v = 0; v < villages; v++) {
                if (isLit(v)) {
                    lit |= 1 << v;
                }
            }
            return lit;
        }

        private int allPasses() {
            int all = 0;
            for (int c = 0; c < CELLS; c++) {
                if (isPass(c)) {
                    all++;
                }
            }
            return all;
        }

        private int allSteps() {
            return sum(steps);
        }

        private int allWaits() {
            return sum(waits);
        }

        private int allHaste() {
            return sum(hastes);
        }

        private int sum(int[] row) {
            int sum = 0;
            for (int r = 0; r < ranges; r++) {
                sum += row[r];
            }
            return sum;
        }
    }

    /** What would be if seasons went by: tried on a copy, so nothing changes. */
    private static final class Foresight {
        private final Land here;
        private final Land trial = new Land();
        private final int[] blocked = new int[MOST_DELAY + LONG_VIEW];

        private Foresight(Land here) {
            this.here = here;
        }

        private Land copyOfHere() {
            trial.becomes(here);
            return trial;
        }

        private Land after(int n) {
            trial.becomes(here);
            trial.goSeasons(n);
            return trial;
        }

        private int seasonsUntilIn(int range, int cell) {
            trial.becomes(here);
            for (int n = 0; n <= LONG_VIEW; n++) {
                if (trial.cells[range] == cell) {
                    return n;
                }
                trial.goSeason();
            }
            return -1;
        }

        private int seasonsUntilLit(int village) {
            trial.becomes(here);
            for (int n = 0; n <= LONG_VIEW; n++) {
                if (trial.isLit(village)) {
                    return n;
                }
                trial.goSeason();
            }
            return -1;
        }

        private int litSeasons(int village, int n) {
            trial.becomes(here);
            int lit = 0;
            for (int i = 0; i < n; i++) {
                trial.goSeason();
                if (trial.isLit(village)) {
                    lit++;
                }
            }
            return lit;
        }

        private int standing() {
            trial.becomes(here);
            trial.goSeasons(LONG_VIEW);
            int standing = 0;
            for (int r = 0; r < here.ranges; r++) {
                if (trial.steps[r] == here.steps[r]) {
                    standing |= 1 << r;
                }
            }
            return standing;
        }

        /** Those behind the levelled one bear lesser numbers in the trial. */
        private int standingWithout(int levelled) {
            trial.becomes(here);
            trial.removeRange(levelled);
            trial.goSeasons(LONG_VIEW);
            int standing = 0;
            for (int r = 0; r < trial.ranges; r++) {
                int before = r < levelled ? r : r + 1;
                if (before < here.ranges && trial.steps[r] == here.steps[before]) {
                    standing++;
                }
            }
            return standing;
        }

        private int bestToLevel() {
            int fewest = Integer.bitCount(standing());
            int best = -1;
            for (int r = 0; r < here.ranges; r++) {
                int standing = standingWithout(r);
                if (standing < fewest) {
                    fewest = standing;
                    best = r;
                }
            }
            return best;
        }

        /** The trial goes on; the answer is how far the range goes in it. */
        private int goneInTrial(int range, int n) {
            trial.goSeasons(n);
            return trial.steps[range] - here.steps[range];
        }

        private int leastHaste(int range, int d, int n) {
            for (int haste = 0; haste <= MOST_HASTE; haste++) {
                trial.becomes(here);
                trial.hastes[range] = haste;
                if (goneInTrial(range, n) >= d) {
                    return haste;
                }
            }
            return -1;
        }

        private int bestWeight(int what, int n) {
            int most = -1;
            int best = -MOST_WEIGHT;
            for (int weight = -MOST_WEIGHT; weight <= MOST_WEIGHT; weight++) {
                trial.becomes(here);
                trial.weights[what] = weight;
                trial.goSeasons(n);
                if (trial.allSteps() > most) {
                    most = trial.allSteps();
                    best = weight;
                }
            }
            return best;
        }

        private int bestCell(int range, int n) {
            int most = -1;
            int best = here.cells[range];
            for (int cell = 0; cell < CELLS; cell++) {
                int there = here.rangeIn(cell);
                if (there >= 0 && there != range) {
                    continue;
                }
                trial.becomes(here);
                trial.cells[range] = cell;
                int gone = goneInTrial(range, n);
                if (gone > most) {
                    most = gone;
                    best = cell;
                }
            }
            return best;
        }

        private int bestKind(int range, int n) {
            int most = -1;
            int best = RANGE;
            for (int kind = 0; kind < KINDS; kind++) {
                trial.becomes(here);
                trial.kinds[range] = kind;
                int gone = goneInTrial(range, n);
                if (gone > most) {
                    most = gone;
                    best = kind;
                }
            }
            return best;
        }

        private int bestPair(int n) {
            int most = after(n).allSteps();
            int best = -1;
            for (int one = 0; one < here.ranges; one++) {
                for (int other = one + 1; other < here.ranges; other++) {
                    trial.becomes(here);
                    trial.changePlaces(one, other);
                    trial.goSeasons(n);
                    if (trial.allSteps() > most) {
                        most = trial.allSteps();
                        best = 10 * one + other;
                    }
                }
            }
            return best;
        }

        private int journeyLength(int from, int to) {
            lookForBlockedCells(LONG_VIEW);
            return walkLength(from, to, 0);
        }

        private int bestDelay(int from, int to) {
            lookForBlockedCells(MOST_DELAY + LONG_VIEW);
            int shortest = LONG_VIEW + 1;
            int best = -1;
            for (int delay = 0; delay <= MOST_DELAY; delay++) {
                int length = walkLength(from, to, delay);
                if (length >= 0 && length < shortest) {
                    shortest = length;
                    best = delay;
                }
            }
            return best;
        }

        /** The walker goes ahead of all, so cells count as a season begins. */
        private void lookForBlockedCells(int n) {
            trial.becomes(here);
            for (int i = 0; i < n && i < blocked.length; i++) {
                blocked[i] = trial.shutCells() | trial.takenCells();
                trial.goSeason();
            }
        }

        private int walkLength(int from, int to, int delay) {
            int at = from;
            for (int n = 0; n < LONG_VIEW && delay + n < blocked.length; n++) {
                if (at == to) {
                    return n;
                }
                if (!isIn(blocked[delay + n], nextCell(at))) {
                    at = nextCell(at);
                }
            }
            return at == to ? LONG_VIEW : -1;
        }

        private void bookCells(Sheet sheet, int range) {
            trial.becomes(here);
            for (int i = 0; i < sheet.size; i++) {
                sheet.put(i, trial.cells[range]);
                trial.goSeason();
            }
        }

        private int matchingPairs(Sheet sheet, int range) {
            int pairs = 0;
            for (int haste = 0; haste <= MOST_HASTE; haste++) {
                for (int weight = -MOST_WEIGHT; weight <= MOST_WEIGHT; weight++) {
                    trial.becomes(here);
                    trial.hastes[range] = haste;
                    trial.weights[WEIGHT_OF_NUMBER] = weight;
                    if (trialGoesAs(sheet, range)) {
                        pairs++;
                    }
                }
            }
            return pairs;
        }

        private boolean trialGoesAs(Sheet sheet, int range) {
            for (int i = 0; i < sheet.size; i++) {
                if (sheet.numbers[i] != trial.cells[range]) {
                    return false;
                }
                trial.goSeason();
            }
            return true;
        }
    }

    /**
     * The bytes of a text, and how they tell a land. The token at hand is the
     * first that isn't taken yet: a fault is always where it begins.
     */
    private static final class Tape {
        private static final int END = 0;
        private static final int WORD = 1;
        private static final int NUMBER = 2;
        private static final int SIGN = 3;
        private static final int OTHER = 4;
        private static final int MOST_NUMBER = 999;

        private final int[] bytes = new int[MOST_BYTES];
        private int size;
        private int from;
        private int behind;
        private int sort;
        private int number;

        private void append(int word, int n) {
            for (int i = n - 1; i >= 0 && size < MOST_BYTES; i--) {
                bytes[size] = word >> 8 * i & 255;
                size++;
            }
        }

        /** Answers how many items there are, or -1 less the place of a fault. */
        private int tell(Land told) {
            behind = 0;
            nextToken();
            for (int items = 1; items <= MOST_BYTES; items++) {
                if (!takeItem(told)) {
                    return -1 - from;
                }
                if (sort == END) {
                    return items;
                }
                if (sort != SIGN) {
                    return -1 - from;
                }
                nextToken();
            }
            return -1 - from;
        }

        private boolean takeItem(Land told) {
            if (isWord("pass")) {
                return takePass(told);
            }
            if (isWord("free")) {
                return takeFree(told);
            }
            if (isWord("village")) {
                return takeVillage(told);
            }
            if (isWord("order")) {
                return takeOrder(told);
            }
            int kind = kindAtHand();
            return kind >= 0 && takeRange(told, kind);
        }

        private boolean takeRange(Land told, int kind) {
            if (told.ranges >= MOST_RANGES) {
                return false;
            }
            nextToken();
            if (!isWord("at")) {
                return false;
            }
            nextToken();
            if (!isNumber(0, CELLS - 1) || told.rangeIn(number) >= 0) {
                return false;
            }
            int cell = takeNumber();
            int haste = 0;
            if (isWord("haste")) {
                nextToken();
                if (!isNumber(0, MOST_HASTE)) {
                    return false;
                }
                haste = takeNumber();
            }
            told.addRange(kind, cell, haste);
            return true;
        }

        private boolean takePass(Land told) {
            nextToken();
            if (!isNumber(0, CELLS - 1)) {
                return false;
            }
            int cell = takeNumber();
            if (!isNumber(LEAST_PERIOD, MOST_PERIOD)) {
                return false;
            }
            int period = takeNumber();
            if (!isNumber(0, period)) {
                return false;
            }
            told.putPass(cell, period, takeNumber());
            return true;
        }

        private boolean takeFree(Land told) {
            nextToken();
            if (!isNumber(0, CELLS - 1)) {
                return false;
            }
            told.putPass(takeNumber(), 0, 0);
            return true;
        }

        private boolean takeVillage(Land told) {
            if (told.villages >= MOST_VILLAGES) {
                return false;
            }
            nextToken();
            if (!isNumber(0, CELLS - 1)) {
                return false;
            }
            told.addVillage(takeNumber());
            return true;
        }

        private boolean takeOrder(Land told) {
            nextToken();
            if (!isNumber(0, WEIGHTS - 1)) {
                return false;
            }
            int what = takeNumber();
            boolean isLess = isWord("less");
            if (isLess) {
                nextToken();
            }
            if (!isNumber(0, MOST_WEIGHT)) {
                return false;
            }
            int weight = takeNumber();
            told.weights[what] = isLess ? -weight : weight;
            return true;
        }

        private int takeNumber() {
            int taken = number;
            nextToken();
            return taken;
        }

        private boolean isNumber(int least, int most) {
            return sort == NUMBER && isBetween(number, least, most);
        }

        private boolean isWord(String word) {
            if (sort != WORD || behind - from != word.length()) {
                return false;
            }
            for (int i = 0; i < word.length(); i++) {
                if (bytes[from + i] != word.charAt(i)) {
                    return false;
                }
            }
            return true;
        }

        private int kindAtHand() {
            for (int kind = 0; kind < KINDS; kind++) {
                if (isWord(nameOfKind(kind))) {
                    return kind;
                }
            }
            return -1;
        }

        private static String nameOfKind(int kind) {
            switch (kind) {
                case HILL:
                    return "hill";
                case PEAK:
                    return "peak";
                case GLACIER:
                    return "glacier";
                case MOOR:
                    return "moor";
                case TWIN:
                    return "twin";
                default:
                    return "range";
            }
        }

        private void nextToken() {
            from = behind;
            while (from < size && bytes[from] == ' ') {
                from++;
            }
            sort = sortAt(from);
            behind = Math.min(from + 1, size);
            if (sort == WORD || sort == NUMBER) {
                while (behind < size && sortAt(behind) == sort) {
                    behind++;
                }
            }
            number = sort == NUMBER ? numberAtHand() : 0;
        }

        private int sortAt(int place) {
            if (place >= size) {
                return END;
            }
            int sign = bytes[place];
            if (sign >= 'a' && sign <= 'z') {
                return WORD;
            }
            if (sign >= '0' && sign <= '9') {
                return NUMBER;
            }
            return sign == ';' ? SIGN : OTHER;
        }

        /** Above 999 it may not be, however much it is: so it grows no further. */
        private int numberAtHand() {
            int told = 0;
            for (int i = from; i < behind && told <= MOST_NUMBER; i++) {
                told = 10 * told + bytes[i] - '0';
            }
            return told;
        }
    }

    /** A row of numbers of so many bits, with their sign; of 0 bits: missing. */
    private static final class Sheet {
        private final long[] numbers = new long[MOST_NUMBERS];
        private int bits;
        private int size;

        private boolean isMissing() {
            return bits == 0;
        }

        private void renew(int newBits, int n) {
            bits = newBits;
            size = newBits == 0 ? 0 : n;
            for (int i = 0; i < MOST_NUMBERS; i++) {
                numbers[i] = 0;
            }
        }

        private void put(int i, long v) {
            switch (bits) {
                case 8:
                    numbers[i] = (byte) v;
                    break;
                case 16:
                    numbers[i] = (short) v;
                    break;
                default:
                    numbers[i] = v;
                    break;
            }
        }

        /** Asked without a sum of the two, which could wrap around. */
        private boolean holds(int first, int n) {
            return first >= 0 && n >= 0 && n <= size && first <= size - n;
        }
    }
}
