/** The edges that promises 30 to 32 name: the tape, and a land told in a text. */
public final class TextEdgesTest {
    private static final String[] KINDS = {"range", "hill", "peak", "glacier", "moor", "twin"};
    private static final Check check = new Check();
    private static final Edges edges = new Edges(check);

    public static void main(String[] args) throws ReflectiveOperationException {
        check.runPromises(TextEdgesTest.class);
        check.end();
    }

    /** A land with so many blanks on its tape. */
    private static MountainFile blanks(int n) {
        MountainFile x = new MountainFile();
        for (int left = n; left > 0; left -= 4) {
            x.feed(0x20202020, Math.min(4, left));
        }
        return x;
    }

    // ---- promise 30: feed

    private static void promise30FromOneByteToFour() {
        edges.bounds("feed(0, v)", Lands::empty, 1, 4, (x, v) -> x.feed(0, v));
        edges.bounds("feed(-1, v)", Lands::some, 1, 4, (x, v) -> x.feed(-1, v));
        for (int n = 1; n <= 4; n++) {
            check.due("to an empty tape", Lands.empty().feed(0, n), n);
        }
    }

    private static void promise30AtMost120Bytes() {
        for (int n = 1; n <= 4; n++) {
            int more = n;
            check.due(n + " up to 120", blanks(120 - n).feed(0, n), 120);
            edges.refused(n + " up to 121", () -> blanks(121 - more), Check.FULL, x -> x.feed(0, more));
            edges.refused(n + " on a full tape", () -> blanks(120), Check.FULL, x -> x.feed(0, more));
            edges.refused(n + " on a full tape", Lands::full, Check.FULL, x -> x.feed(0, more));
        }
    }

    private static void promise30WhatHasRoomStillComes() {
        MountainFile x = blanks(118);
        check.due("four don't", x.feed(0, 4), Check.FULL);
        check.due("three don't", x.feed(0, 3), Check.FULL);
        check.due("two do", x.feed(0, 2), 120);
        check.due("one doesn't", x.feed(0, 1), Check.FULL);
        x.wipe();
        check.due("one does", x.feed(0, 1), 1);
    }

    private static void promise30BeyondIsAskedAheadOfFull() {
        for (int n : new int[] {Integer.MIN_VALUE, -1, 0, 5, 121, Integer.MAX_VALUE}) {
            edges.refused(n + " on a full tape", () -> blanks(120), Check.BEYOND, x -> x.feed(0, n));
        }
    }

    /** "free" by each n: the lowest bytes, the highest of these first. */
    private static void promise30TheHighestOfTheLowestBytesFirst() {
        int word = 'f' << 24 | 'r' << 16 | 'e' << 8 | 'e';
        for (int n = 1; n <= 4; n++) {
            MountainFile x = Lands.empty();
            x.pass(7, 2, 0);
            Check.feedText(x, "free".substring(0, 4 - n));
            check.due("with " + n, x.feed(word, n), 4);
            Check.feedText(x, " 7");
            check.due("land", x.land(), 1);
            check.due("it is free", x.count(3), 0);
        }
    }

    private static void promise30BytesOfNumbersBelowZero() {
        MountainFile x = Lands.empty();
        Check.feedText(x, "free");
        check.due("a blank in a number below 0", x.feed(0xffffff20, 1), 5);
        check.due("a digit in the least number", x.feed(Integer.MIN_VALUE | '7', 1), 6);
        check.due("land", x.land(), 1);
        check.due("the byte 255", x.feed(-1, 1), 1);
        check.due("begins no token", x.land(), -1);
        check.due("the bytes 128, 0, 0, 0", x.feed(Integer.MIN_VALUE, 4), 4);
        check.due("begin no token", x.land(), -1);
    }

    // ---- promise 31: wipe

    private static void promise31EmptyAndFull() {
        edges.asked("an empty tape", Lands::empty, 0, x -> x.wipe());
        check.due("one byte", blanks(1).wipe(), 1);
        check.due("a full tape", blanks(120).wipe(), 120);
        MountainFile x = Lands.full();
        check.due("a full land", x.wipe(), 120);
        check.due("it is empty", x.count(2), 0);
        check.due("once more", x.wipe(), 0);
        check.due("the ranges stay", x.count(0), 8);
        check.due("a text that ends at once", x.land(), -1);
    }

    // ---- promise 32: land

    /** What the text answers in a land with somebody in cell 12, and no more. */
    private static int told(String text) {
        MountainFile x = Lands.empty();
        x.range(0, 12);
        return Check.landOf(x, text);
    }

    /** The fault is at that place, and nothing changes but that the tape is empty. */
    private static void fault(String text, int place) {
        check.due("'" + text + "'", told(text), -1 - place);
        MountainFile x = Lands.some();
        MountainFile untouched = Lands.some();
        x.wipe();
        untouched.wipe();
        x.set(0, 1, 12);
        untouched.set(0, 1, 12);
        Check.feedText(x, text);
        check.due("'" + text + "' in a land with something of all", x.land(), -1 - place);
        check.due("'" + text + "': the tape", x.count(2), 0);
        check.due("'" + text + "': findings", x.status(-1), untouched.status(-1));
        edges.same("'" + text + "' changes nothing", x, untouched);
    }

    private static void promise32AnEmptyTape() {
        check.due("it ends too early", Lands.empty().land(), -1);
        edges.asked("it ends too early", Lands::empty, -1, x -> x.land());
        fault("", 0);
    }

    private static void promise32ATapeOfBlanks() {
        for (int n : new int[] {1, 4, 119, 120}) {
            check.due(n + " blanks", blanks(n).land(), -1 - n);
        }
        fault("   ", 3);
    }

    private static void promise32AFullTape() {
        MountainFile x = Lands.full();
        check.due("seventeen items", x.land(), 17);
        check.due("the tape is empty", x.count(2), 0);
        check.due("eleven are free", x.count(3), 24 - 11);
        check.due("twenty items in 119 bytes", told("free1;".repeat(19) + "free2"), 20);
        check.due("and a blank", told("free1;".repeat(19) + "free2 "), 20);
        check.due("and a digit", told("free1;".repeat(19) + "free23"), 20);
        check.due("and a digit too much", told("free1;".repeat(19) + "free24"), -1 - 118);
        check.due("it ends too early at 120", told("free1;".repeat(20)), -1 - 120);
        check.due("a fault in the last byte", told("free1;".repeat(19) + "free2?"), -1 - 119);
        check.due("a word of 120 letters", told("z".repeat(120)), -1);
        check.due("a number of 120 digits", told("9".repeat(120)), -1);
        check.due("a cell of 115 digits", told("free " + "9".repeat(115)), -1 - 5);
    }

    private static void promise32CellsOfKinds() {
        for (int kind = 0; kind < KINDS.length; kind++) {
            String text = KINDS[kind] + " at ";
            MountainFile x = Lands.empty();
            check.due(text + "0", Check.landOf(x, text + "0"), 1);
            check.due(text + "23", Check.landOf(x, text + "23"), 1);
            check.due("kind", x.of(1, 0), kind);
            check.due("the first", x.of(0, 1), 0);
            check.due("the last", x.of(1, 1), 23);
            check.due("haste", x.of(1, 2), 0);
            fault(text + "24", text.length());
        }
        for (String wrong : new String[] {"99", "999", "1000", "4294967296", "18446744073709551616"}) {
            fault("range at " + wrong, 9);
        }
    }

    private static void promise32ACellInWhichNobodyIsByThen() {
        fault("range at 12", 9);
        fault("range at 012", 9);
        check.due("next to it", told("range at 13"), 1);
        check.due("behind it", told("range at 11"), 1);
        fault("range at 5;moor at 5", 19);
        fault("range at 5; free 5 ;moor at 05", 28);
        check.due("each in its own", told("range at 5;moor at 6"), 2);
    }

    private static void promise32Hastes() {
        MountainFile x = Lands.empty();
        check.due("none", Check.landOf(x, "twin at 0 haste 0"), 1);
        check.due("most", Check.landOf(x, "twin at 1 haste 9"), 1);
        check.due("its haste", x.of(0, 2), 0);
        check.due("the other's haste", x.of(1, 2), 9);
        fault("twin at 0 haste 10", 16);
        fault("twin at 0 haste", 15);
        fault("twin at 0 haste ;", 16);
        fault("twin at 0 haste less", 16);
        fault("twin at 0 9", 10);
        fault("twin at 0 haste 9 9", 18);
        fault("twin at 0 haste 9 haste 9", 18);
    }

    private static void promise32CellsOfPasses() {
        MountainFile x = Lands.empty();
        check.due("the first and the last", Check.landOf(x, "pass 0 2 1;pass 23 2 1"), 2);
        check.due("both are open", x.now(4), 1 | 1 << 23);
        fault("pass 24 2 1", 5);
        fault("pass 1000 2 1", 5);
        fault("pass", 4);
        fault("pass ;", 5);
        fault("pass at 5", 5);
    }

    private static void promise32PeriodsOfPasses() {
        for (int period = 2; period <= 9; period++) {
            MountainFile x = Lands.empty();
            check.due("never open", Check.landOf(x, "pass 5 " + period + " 0"), 1);
            check.due("period", x.cell(5, 0), period);
            check.due("open", x.cell(5, 1), 0);
            check.due("always open", Check.landOf(x, "pass 5 " + period + " " + period), 1);
            check.due("open", x.cell(5, 1), period);
            check.due("passes", x.count(3), 1);
            fault("pass 5 " + period + " " + (period + 1), 9);
        }
        fault("pass 5 1 1", 7);
        fault("pass 5 0 0", 7);
        fault("pass 5 10 1", 7);
        fault("pass 5", 6);
        fault("pass 5;", 6);
        fault("pass 5 2", 8);
        fault("pass 5 2;", 8);
        fault("pass 5 2 1 1", 11);
        fault("pass 5 2 1000", 9);
    }

    private static void promise32CellsThatAreFree() {
        MountainFile x = Lands.empty();
        x.pass(0, 2, 1);
        x.pass(23, 2, 1);
        check.due("the first and the last", Check.landOf(x, "free 0;free 23"), 2);
        check.due("no pass", x.count(3), 0);
        check.due("period", x.cell(0, 0), 0);
        check.due("open", x.cell(23, 1), 0);
        check.due("what is none", Check.landOf(x, "free 0"), 1);
        fault("free 24", 5);
        fault("free", 4);
        fault("free free", 5);
        fault("free 5 5", 7);
    }

    private static void promise32CellsOfVillages() {
        MountainFile x = Lands.empty();
        check.due("the first and the last", Check.landOf(x, "village 0;village 23"), 2);
        check.due("cell", x.villageOf(0, 0), 0);
        check.due("cell", x.villageOf(1, 0), 23);
        fault("village 24", 8);
        fault("village", 7);
        fault("village at 5", 8);
        fault("village 5 5", 10);
    }

    private static void promise32Weights() {
        for (int what = 0; what <= 3; what++) {
            MountainFile x = Lands.empty();
            check.due("most", Check.landOf(x, "order " + what + " 9"), 1);
            check.due("it is", x.order(what, 5), 9);
            check.due("least", Check.landOf(x, "order " + what + " less 9"), 1);
            check.due("it is", x.order(what, 5), -9);
            check.due("0", Check.landOf(x, "order " + what + " 0"), 1);
            check.due("it is", x.order(what, 5), 0);
            check.due("less 0", Check.landOf(x, "order " + what + " less 0"), 1);
            check.due("it is", x.order(what, 5), 0);
            fault("order " + what + " 10", 8);
            fault("order " + what + " less 10", 13);
        }
        fault("order 4 1", 6);
        fault("order 4 less 10", 6);
        fault("order", 5);
        fault("order 0", 7);
        fault("order 0;", 7);
        fault("order 0 less", 12);
        fault("order 0 less;", 12);
        fault("order 0 less less 1", 13);
        fault("order 0 1 less", 10);
        fault("order less 1", 6);
    }

    private static void promise32ItemsAndSigns() {
        check.due("one item", told("free 5"), 1);
        check.due("two items", told("free 5;free 6"), 2);
        fault(";", 0);
        fault("free 5;", 7);
        fault("free 5; ", 8);
        fault("free 5;;free 6", 7);
        fault(";free 5", 0);
        fault("free 5 free 6", 7);
        fault("free 5 6", 7);
        fault("at 5", 0);
        fault("haste 5", 0);
        fault("less 5", 0);
        fault("5", 0);
    }

    private static void promise32WordsAsLongAsCanBe() {
        for (String kind : KINDS) {
            fault(kind.substring(1) + " at 5", 0);
            fault("z" + kind.substring(1) + " at 5", 0);
            fault(kind.substring(0, kind.length() - 1) + "z at 5", 0);
            fault(kind.substring(0, kind.length() - 1) + " at 5", 0);
            fault(kind + "s at 5", 0);
            fault(kind + "at 5", 0);
            fault(kind, kind.length());
            fault(kind + " 5", kind.length() + 1);
            fault(kind + " at", kind.length() + 3);
            fault(kind + " at at", kind.length() + 4);
            fault(kind + " a 5", kind.length() + 1);
            fault(kind + " att 5", kind.length() + 1);
        }
        for (String word : new String[] {"pass", "free", "village", "order"}) {
            fault(word.substring(0, word.length() - 1) + " 1 2 1", 0);
            fault(word + "s 1 2 1", 0);
            fault("z" + word.substring(1) + " 1 2 1", 0);
            fault(word.substring(0, word.length() - 1) + "z 1 2 1", 0);
        }
        fault("hill at 5 hast 1", 10);
        fault("hill at 5 hastes 1", 10);
        fault("hill at 5 waste 1", 10);
        fault("hill it 5", 5);
        fault("hill as 5", 5);
        fault("order 1 les 1", 8);
        fault("order 1 lesser 1", 8);
        fault("order 1 mess 1", 8);
    }

    private static void promise32TokensWithoutBlanks() {
        check.due("words and numbers", told("hill at5haste3;pass1 2 1;order0less4;village7"), 4);
        fault("pass1 21", 6);
        check.due("blanks ahead and behind", told("  free  5  ;  free  6  "), 2);
    }

    private static void promise32NumbersOfManyDigits() {
        check.due("zeros ahead", told("range at 0005 haste 009"), 1);
        fault("free 0024", 5);
        fault("free 24", 5);
        fault("free 999", 5);
        fault("free 1000", 5);
        fault("free 2147483648", 5);
        fault("free 4294967301", 5);
    }

    /** The neighbours of a, z, 0, 9, ; and of the blank, and the ends of the bytes. */
    private static void promise32BytesThatBeginNoToken() {
        for (int sign : new int[] {0, 9, 10, 13, 31, 33, '/', ':', '<', 'A', 'Z', '`', '{', 127, 128, 160, 255}) {
            String text = String.valueOf((char) sign);
            fault(text, 0);
            fault("free" + text + "5", 4);
            fault("free 5" + text, 6);
            fault("free 5;" + text + "free 6", 7);
        }
    }

    /** The first and the last letters and digits are of their tokens. */
    private static void promise32LettersAndDigitsAtTheEnds() {
        fault("freea 5", 0);
        fault("freez 5", 0);
        fault("afree 5", 0);
        fault("zfree 5", 0);
        check.due("0 and 9", told("free 09"), 1);
        check.due("9 and 0", told("order 0 9; order 1 0"), 2);
    }

    private static void promise32TheNameOfAKindForA9th() {
        for (String kind : KINDS) {
            MountainFile x = Lands.empty();
            for (int r = 0; r < 7; r++) {
                x.range(0, r);
            }
            check.due("an 8th and a 9th", Check.landOf(x, kind + " at 20;" + kind + " at 21"), -1 - kind.length() - 7);
            check.due("none came", x.count(0), 7);
            check.due("an 8th", Check.landOf(x, kind + " at 20"), 1);
            check.due("a 9th", Check.landOf(x, kind + " at 21"), -1);
            check.due("a 9th where somebody is", Check.landOf(x, kind + " at 20"), -1);
            check.due("a 9th that ends too early", Check.landOf(x, "free 1; " + kind), -1 - 8);
            check.due("a 9th nowhere", Check.landOf(x, " " + kind + " 99"), -1 - 1);
            check.due("eight", x.count(0), 8);
            check.due("no finding", x.status(-1), 0);
        }
    }

    private static void promise32VillageForA7th() {
        MountainFile x = Lands.empty();
        for (int v = 0; v < 5; v++) {
            x.village(v);
        }
        check.due("a 6th and a 7th", Check.landOf(x, "village 1;village 1"), -1 - 10);
        check.due("none came", x.count(1), 5);
        check.due("a 6th", Check.landOf(x, "village 21"), 1);
        check.due("its cell", x.villageOf(5, 0), 21);
        check.due("a 7th", Check.landOf(x, "village 1"), -1);
        check.due("a 7th that ends too early", Check.landOf(x, "free 1; village"), -1 - 8);
        check.due("a 7th nowhere", Check.landOf(x, " village 99"), -1 - 1);
        check.due("six", x.count(1), 6);
        check.due("no finding", x.status(-1), 0);
    }

    private static void promise32AFullLandTakesTheRest() {
        MountainFile x = Lands.full();
        x.wipe();
        check.due("passes, free cells and weights", Check.landOf(x, "pass 3 9 9;free 4;order 3 less 9"), 3);
        check.due("passes", x.count(3), 23);
        check.due("weight", x.order(3, 0), -9);
    }

    private static void promise32ItemsComeToWhatThereIs() {
        MountainFile x = Lands.some();
        check.due("two items", x.land(), 2);
        check.due("a village more", x.count(1), 3);
        check.due("its cell", x.villageOf(2, 0), 7);
        check.due("a range more", x.count(0), 4);
        check.due("its kind", x.of(3, 0), 1);
        check.due("its cell", x.of(3, 1), 20);
        check.due("its steps", x.of(3, 3), 0);
        check.due("its waits", x.of(3, 4), 0);
        check.due("season", x.now(0), 5);
        check.due("what is kept stays", x.undo(), 3);
    }

    private static void promise32WhatAnOlderTextLeft() {
        MountainFile x = Lands.empty();
        Check.landOf(x, "free 23");
        check.due("no digits of it", Check.landOf(x, "free 2"), 1);
        Check.landOf(x, "free 1;freeze");
        check.due("no letters of it", Check.landOf(x, "free 1;free"), -1 - 11);
        Check.feedText(x, "free 1;");
        x.wipe();
        check.due("nothing that was wiped", Check.landOf(x, "free 5"), 1);
    }
}
