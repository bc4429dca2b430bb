/** Promises 30 to 32: the tape, and a land told in a text. */
public final class TextTest {
    private static final Check check = new Check();

    public static void main(String[] args) {
        promise30Feed();
        promise31Wipe();
        promise32Items();
        promise32Tokens();
        promise32Faults();
        promise32FullLand();
        promise32LongText();
        check.end();
    }

    private static void promise30Feed() {
        MountainFile x = new MountainFile();
        check.due("four bytes", x.feed('f' << 24 | 'r' << 16 | 'e' << 8 | 'e', 4), 4);
        check.due("the lowest two", x.feed(0x41410000 | ' ' << 8 | '1', 2), 6);
        check.due("the lowest one", x.feed(0xffffff00 | '7', 1), 7);
        check.due("the lowest three", x.feed(0xff000000 | ' ' << 16 | ' ' << 8 | ' ', 3), 10);
        x.pass(17, 2, 2);
        check.due("in this order", x.land(), 1);
        check.due("it is free", x.count(3), 0);
        check.due("a byte above 127", x.feed(-1, 1), 1);
        check.due("begins no token", x.land(), -1);
        for (int i = 1; i <= 29; i++) {
            check.due("feed", x.feed(0, 4), 4 * i);
        }
        check.due("up to 118", x.feed(0, 2), 118);
        check.due("three are too many", x.feed(0, 3), Check.FULL);
        check.due("nothing came", x.count(2), 118);
        check.due("two are not", x.feed(0, 2), 120);
        check.due("one is now", x.feed(0, 1), Check.FULL);
        check.due("n 0", x.feed(0, 0), Check.BEYOND);
        check.due("n 5", x.feed(0, 5), Check.BEYOND);
        check.due("n -1", x.feed(0, -1), Check.BEYOND);
        check.due("FULL counted", x.status(1), 2);
        check.due("BEYOND counted", x.status(0), 3);
    }

    private static void promise31Wipe() {
        MountainFile x = new MountainFile();
        Check.feedText(x, "range");
        check.due("had", x.wipe(), 5);
        check.due("has none", x.wipe(), 0);
        check.due("empty", x.count(2), 0);
        check.due("from the front again", Check.landOf(x, "free 1"), 1);
    }

    private static void promise32Items() {
        MountainFile x = new MountainFile();
        x.range(0, 9);
        check.due("kinds", Check.landOf(x, "range at 0;hill at 1;peak at 2;glacier at 3;moor at 4;twin at 23 haste 9"), 6);
        int[] kinds = {0, 0, 1, 2, 3, 4, 5};
        int[] cells = {9, 0, 1, 2, 3, 4, 23};
        for (int r = 0; r < kinds.length; r++) {
            check.due("kind of " + r, x.of(r, 0), kinds[r]);
            check.due("cell of " + r, x.of(r, 1), cells[r]);
            check.due("haste of " + r, x.of(r, 2), r == 6 ? 9 : 0);
            check.due("steps of " + r, x.of(r, 3), 0);
        }
        check.due("passes", Check.landOf(x, "pass 23 9 9; pass 0 2 0; pass 5 3 1; free 5; free 6"), 5);
        check.due("period", x.cell(23, 0), 9);
        check.due("open", x.cell(23, 1), 9);
        check.due("never open", x.cell(0, 2), 0);
        check.due("free", x.cell(5, 0), 0);
        check.due("villages", Check.landOf(x, "village 23 ; village 0 ; village 23"), 3);
        check.due("cell of a village", x.villageOf(2, 0), 23);
        check.due("weights", Check.landOf(x, "order 0 9;order 1 less 9;order 2 less 0;order 3 4;order 3 0"), 5);
        check.due("weight 0", x.order(0, 0), 9);
        check.due("weight 1", x.order(1, 0), -9);
        check.due("weight 2", x.order(2, 0), 0);
        check.due("weight 3: the latest", x.order(3, 0), 0);
        x.pass(0, 2, 2);
        x.pass(23, 2, 2);
        check.due("the first and the last cell", Check.landOf(x, "free 0;free 23"), 2);
        check.due("are free", x.count(3), 0);
        check.due("haste 0", Check.landOf(x, "hill at 12 haste 0"), 1);
        check.due("the tape is empty", x.count(2), 0);
        check.due("season stays", x.now(0), 0);
    }

    private static void promise32Tokens() {
        check.due("no blanks", new Told("hill at5haste3;pass1 2 1;order0less4").answer, 3);
        check.due("many blanks", new Told("   hill   at   5   ;   free   7   ").answer, 2);
        check.due("zeros ahead", new Told("range at 00005 haste 009").answer, 1);
        check.due("a word as long as can be", new Told("rangeat 5").answer, -1);
        check.due("a number as long as can be", new Told("pass 1 21").answer, -1 - 7);
        check.due("a word with a z", new Told("freez 5").answer, -1);
        check.due("another first letter", new Told("zree 5").answer, -1);
        check.due("a letter less", new Told("ree 5").answer, -1);
        check.due("a great letter", new Told("Range at 5").answer, -1);
        check.due("a tab is no blank", new Told("range\tat 5").answer, -1 - 5);
        check.due("a line's end is no blank", new Told("free 5\n").answer, -1 - 6);
        check.due("a huge number", new Told("free 99999999999999999999").answer, -1 - 5);
        check.due("a number that wraps round", new Told("free 4294967296").answer, -1 - 5);
        check.due("a sign that is none", new Told("free 5, free 6").answer, -1 - 6);
        check.due("below 0", new Told("order 0 -3").answer, -1 - 8);
        MountainFile x = new MountainFile();
        Check.landOf(x, "free 999");
        check.due("digits of an older text", Check.landOf(x, "free 1"), 1);
        Check.landOf(x, "free 1;freeze");
        check.due("letters of an older text", Check.landOf(x, "free 1;free"), -1 - 11);
    }

    private static void promise32Faults() {
        String[] texts = {
            "", "   ", ";", "free 5;", "free 5; ", "free 5;;free 6", "range", "range at", "range 5", "range at at",
            "range at 24", "range at 12", "range at 5;hill at 5", "range at 5 haste", "range at 5 haste 10",
            "range at 5 hasty 1", "range at 5 free 3", "range at 5 3", "pass", "pass 24 2 1", "pass 5", "pass 5 1 1",
            "pass 5 10 1", "pass 5 2", "pass 5 2 3", "pass 5 0 0", "pass 5 2 1 1", "pass at 5", "free", "free 24",
            "free x", "free 5 5", "village", "village 24", "village at", "order", "order 4 1", "order 1", "order 1 10",
            "order 1 less", "order 1 less 10", "order 1 less less", "order 1 more 5", "order 1 5 less", "haste 5",
            "at 5", "5", "lake at 5", "free 1000", "twins at 5", "twi at 5", "range at 5 haste 3 haste 3", "free 5;free"};
        int[] faults = {
            0, 3, 0, 7, 8, 7, 5, 8, 6, 9,
            9, 9, 19, 16, 17,
            11, 11, 11, 4, 5, 6, 7,
            7, 8, 9, 7, 11, 5, 4, 5,
            5, 7, 7, 8, 8, 5, 6, 7, 8,
            12, 13, 13, 8, 10, 0,
            0, 0, 0, 5, 0, 0, 19, 11};
        check.due("as many faults as texts", texts.length, faults.length);
        for (int i = 0; i < texts.length; i++) {
            Told told = new Told(texts[i]);
            check.due("fault of '" + texts[i] + "'", told.answer, -1 - faults[i]);
            check.due("tape behind '" + texts[i] + "'", told.land.count(2), 0);
            check.holds("nothing changes by '" + texts[i] + "'", told.isUnchanged());
            check.due("no finding by '" + texts[i] + "'", told.land.status(-1), 0);
        }
    }

    private static void promise32FullLand() {
        MountainFile x = new MountainFile();
        for (int r = 0; r < 7; r++) {
            x.range(0, r);
        }
        for (int v = 0; v < 5; v++) {
            x.village(v);
        }
        check.due("a 9th in a text", Check.landOf(x, "moor at 20;moor at 21"), -1 - 11);
        check.due("nothing came", x.count(0), 7);
        check.due("an 8th", Check.landOf(x, "moor at 20"), 1);
        check.due("the 9th is at fault by its name", Check.landOf(x, "free 1; moor"), -1 - 8);
        check.due("another word is at fault too", Check.landOf(x, "moors at 3"), -1);
        check.due("a 7th in a text", Check.landOf(x, "village 1;village 1"), -1 - 10);
        check.due("a 6th", Check.landOf(x, "village 1"), 1);
        check.due("the 7th is at fault by its name", Check.landOf(x, " village"), -1 - 1);
        check.due("villages", x.count(1), 6);
    }

    private static void promise32LongText() {
        StringBuilder text = new StringBuilder("free 1");
        for (int i = 0; i < 16; i++) {
            text.append(";free 2");
        }
        text.append("  ");
        MountainFile x = new MountainFile();
        check.due("bytes", Check.feedText(x, text.toString()), 120);
        check.due("seventeen items", x.land(), 17);
        text.setCharAt(119, ';');
        check.due("bytes again", Check.feedText(x, text.toString()), 120);
        check.due("ends too early", x.land(), -1 - 120);
        text.setCharAt(119, 'z');
        Check.feedText(x, text.toString());
        check.due("the last byte", x.land(), -1 - 119);
    }

    /** A text told to a land in which a range is in cell 12. */
    private static final class Told {
        final MountainFile land = new MountainFile();
        final int answer;

        Told(String text) {
            land.range(0, 12);
            answer = Check.landOf(land, text);
        }

        boolean isUnchanged() {
            boolean same = land.count(0) == 1 && land.count(1) == 0 && land.count(3) == 0;
            same &= land.of(0, 1) == 12 && land.of(0, 2) == 0 && land.of(0, 6) == 0;
            for (int w = 0; w < 4; w++) {
                same &= land.order(w, 0) == 0;
            }
            return same;
        }
    }
}
